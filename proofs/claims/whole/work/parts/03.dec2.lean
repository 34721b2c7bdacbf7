theorem dX1_leastOf_63 : decode cX1_leastOf 63 = .ok (.invokestatic 51, 3) := by decide +kernel
theorem dX1_leastOf_66 : decode cX1_leastOf 66 = .ok (.istore 4, 2) := by decide +kernel
theorem dX1_leastOf_68 : decode cX1_leastOf 68 = .ok (.iinc 5 1, 3) := by decide +kernel
theorem dX1_leastOf_71 : decode cX1_leastOf 71 = .ok (.goto (-52), 3) := by decide +kernel
theorem dX1_leastOf_74 : decode cX1_leastOf 74 = .ok (.iload 4, 2) := by decide +kernel
theorem dX1_leastOf_76 : decode cX1_leastOf 76 = .ok (.ireturn, 1) := by decide +kernel
theorem dX3_init_0 : decode cX3_init 0 = .ok (.aload_n 0, 1) := by decide +kernel
theorem dX3_init_1 : decode cX3_init 1 = .ok (.invokespecial 3, 3) := by decide +kernel
theorem dX3_init_4 : decode cX3_init 4 = .ok (.aload_n 0, 1) := by decide +kernel
theorem dX3_init_5 : decode cX3_init 5 = .ok (.bipush 6, 2) := by decide +kernel
theorem dX3_init_7 : decode cX3_init 7 = .ok (.newarray .int, 2) := by decide +kernel
theorem dX3_init_9 : decode cX3_init 9 = .ok (.putfield 9, 3) := by decide +kernel
theorem dX3_init_12 : decode cX3_init 12 = .ok (.aload_n 0, 1) := by decide +kernel
theorem dX3_init_13 : decode cX3_init 13 = .ok (.bipush 6, 2) := by decide +kernel
theorem dX3_init_15 : decode cX3_init 15 = .ok (.newarray .int, 2) := by decide +kernel
theorem dX3_init_17 : decode cX3_init 17 = .ok (.putfield 15, 3) := by decide +kernel
theorem dX3_init_20 : decode cX3_init 20 = .ok (.aload_n 0, 1) := by decide +kernel
theorem dX3_init_21 : decode cX3_init 21 = .ok (.ldc 18, 2) := by decide +kernel
theorem dX3_init_23 : decode cX3_init 23 = .ok (.putfield 19, 3) := by decide +kernel
theorem dX3_init_26 : decode cX3_init 26 = .ok (.return_, 1) := by decide +kernel
theorem dX3_seek_0 : decode cX3_seek 0 = .ok (.aload_n 0, 1) := by decide +kernel
theorem dX3_seek_1 : decode cX3_seek 1 = .ok (.ldc 18, 2) := by decide +kernel
theorem dX3_seek_3 : decode cX3_seek 3 = .ok (.putfield 19, 3) := by decide +kernel
theorem dX3_seek_6 : decode cX3_seek 6 = .ok (.iconst 0, 1) := by decide +kernel
theorem dX3_seek_7 : decode cX3_seek 7 = .ok (.istore_n 3, 1) := by decide +kernel
theorem dX3_seek_8 : decode cX3_seek 8 = .ok (.iload_n 3, 1) := by decide +kernel
theorem dX3_seek_9 : decode cX3_seek 9 = .ok (.bipush 6, 2) := by decide +kernel
theorem dX3_seek_11 : decode cX3_seek 11 = .ok (.if_icmp .ge 25, 3) := by decide +kernel
theorem dX3_seek_14 : decode cX3_seek 14 = .ok (.aload_n 0, 1) := by decide +kernel
theorem dX3_seek_15 : decode cX3_seek 15 = .ok (.getfield 9, 3) := by decide +kernel
theorem dX3_seek_18 : decode cX3_seek 18 = .ok (.iload_n 3, 1) := by decide +kernel
theorem dX3_seek_19 : decode cX3_seek 19 = .ok (.bipush (-9), 2) := by decide +kernel
theorem dX3_seek_21 : decode cX3_seek 21 = .ok (.iastore, 1) := by decide +kernel
theorem dX3_seek_22 : decode cX3_seek 22 = .ok (.aload_n 0, 1) := by decide +kernel
theorem dX3_seek_23 : decode cX3_seek 23 = .ok (.getfield 15, 3) := by decide +kernel
theorem dX3_seek_26 : decode cX3_seek 26 = .ok (.iload_n 3, 1) := by decide +kernel
theorem dX3_seek_27 : decode cX3_seek 27 = .ok (.bipush (-9), 2) := by decide +kernel
theorem dX3_seek_29 : decode cX3_seek 29 = .ok (.iastore, 1) := by decide +kernel
theorem dX3_seek_30 : decode cX3_seek 30 = .ok (.iinc 3 1, 3) := by decide +kernel
theorem dX3_seek_33 : decode cX3_seek 33 = .ok (.goto (-25), 3) := by decide +kernel
theorem dX3_seek_36 : decode cX3_seek 36 = .ok (.aload_n 0, 1) := by decide +kernel
theorem dX3_seek_37 : decode cX3_seek 37 = .ok (.aload_n 1, 1) := by decide +kernel
theorem dX3_seek_38 : decode cX3_seek 38 = .ok (.iload_n 2, 1) := by decide +kernel
theorem dX3_seek_39 : decode cX3_seek 39 = .ok (.iconst 0, 1) := by decide +kernel
theorem dX3_seek_40 : decode cX3_seek 40 = .ok (.invokevirtual 23, 3) := by decide +kernel
theorem dX3_seek_43 : decode cX3_seek 43 = .ok (.return_, 1) := by decide +kernel
theorem dX3_partnerOf_0 : decode cX3_partnerOf 0 = .ok (.aload_n 0, 1) := by decide +kernel
theorem dX3_partnerOf_1 : decode cX3_partnerOf 1 = .ok (.getfield 15, 3) := by decide +kernel
theorem dX3_partnerOf_4 : decode cX3_partnerOf 4 = .ok (.iload_n 1, 1) := by decide +kernel
theorem dX3_partnerOf_5 : decode cX3_partnerOf 5 = .ok (.iaload, 1) := by decide +kernel
theorem dX3_partnerOf_6 : decode cX3_partnerOf 6 = .ok (.ireturn, 1) := by decide +kernel
theorem dX3_pair_0 : decode cX3_pair 0 = .ok (.iload_n 3, 1) := by decide +kernel
theorem dX3_pair_1 : decode cX3_pair 1 = .ok (.aload_n 0, 1) := by decide +kernel
theorem dX3_pair_2 : decode cX3_pair 2 = .ok (.getfield 19, 3) := by decide +kernel
theorem dX3_pair_5 : decode cX3_pair 5 = .ok (.if_icmp .lt 4, 3) := by decide +kernel
theorem dX3_pair_8 : decode cX3_pair 8 = .ok (.return_, 1) := by decide +kernel
theorem dX3_pair_9 : decode cX3_pair 9 = .ok (.iload_n 2, 1) := by decide +kernel
theorem dX3_pair_10 : decode cX3_pair 10 = .ok (.ifCond .ne 24, 3) := by decide +kernel
theorem dX3_pair_13 : decode cX3_pair 13 = .ok (.aload_n 0, 1) := by decide +kernel
theorem dX3_pair_14 : decode cX3_pair 14 = .ok (.iload_n 3, 1) := by decide +kernel
theorem dX3_pair_15 : decode cX3_pair 15 = .ok (.putfield 19, 3) := by decide +kernel
theorem dX3_pair_18 : decode cX3_pair 18 = .ok (.aload_n 0, 1) := by decide +kernel
theorem dX3_pair_19 : decode cX3_pair 19 = .ok (.getfield 9, 3) := by decide +kernel
theorem dX3_pair_22 : decode cX3_pair 22 = .ok (.iconst 0, 1) := by decide +kernel
theorem dX3_pair_23 : decode cX3_pair 23 = .ok (.aload_n 0, 1) := by decide +kernel
theorem dX3_pair_24 : decode cX3_pair 24 = .ok (.getfield 15, 3) := by decide +kernel
theorem dX3_pair_27 : decode cX3_pair 27 = .ok (.iconst 0, 1) := by decide +kernel
theorem dX3_pair_28 : decode cX3_pair 28 = .ok (.bipush 6, 2) := by decide +kernel
theorem dX3_pair_30 : decode cX3_pair 30 = .ok (.invokestatic 27, 3) := by decide +kernel
theorem dX3_pair_33 : decode cX3_pair 33 = .ok (.return_, 1) := by decide +kernel
theorem dX3_pair_34 : decode cX3_pair 34 = .ok (.iconst 0, 1) := by decide +kernel
theorem dX3_pair_35 : decode cX3_pair 35 = .ok (.istore 4, 2) := by decide +kernel
theorem dX3_pair_37 : decode cX3_pair 37 = .ok (.iload 4, 2) := by decide +kernel
theorem dX3_pair_39 : decode cX3_pair 39 = .ok (.bipush 6, 2) := by decide +kernel
theorem dX3_pair_41 : decode cX3_pair 41 = .ok (.if_icmp .ge 18, 3) := by decide +kernel
theorem dX3_pair_44 : decode cX3_pair 44 = .ok (.iload_n 2, 1) := by decide +kernel
theorem dX3_pair_45 : decode cX3_pair 45 = .ok (.iload 4, 2) := by decide +kernel
theorem dX3_pair_47 : decode cX3_pair 47 = .ok (.ishr, 1) := by decide +kernel
theorem dX3_pair_48 : decode cX3_pair 48 = .ok (.iconst 1, 1) := by decide +kernel
theorem dX3_pair_49 : decode cX3_pair 49 = .ok (.iand, 1) := by decide +kernel
theorem dX3_pair_50 : decode cX3_pair 50 = .ok (.ifCond .ne 9, 3) := by decide +kernel
theorem dX3_pair_53 : decode cX3_pair 53 = .ok (.iinc 4 1, 3) := by decide +kernel
theorem dX3_pair_56 : decode cX3_pair 56 = .ok (.goto (-19), 3) := by decide +kernel
theorem dX3_pair_59 : decode cX3_pair 59 = .ok (.iload 4, 2) := by decide +kernel
theorem dX3_pair_61 : decode cX3_pair 61 = .ok (.iconst 1, 1) := by decide +kernel
theorem dX3_pair_62 : decode cX3_pair 62 = .ok (.iadd, 1) := by decide +kernel
theorem dX3_pair_63 : decode cX3_pair 63 = .ok (.istore 5, 2) := by decide +kernel
theorem dX3_pair_65 : decode cX3_pair 65 = .ok (.iload 5, 2) := by decide +kernel
theorem dX3_pair_67 : decode cX3_pair 67 = .ok (.bipush 6, 2) := by decide +kernel
theorem dX3_pair_69 : decode cX3_pair 69 = .ok (.if_icmp .ge 66, 3) := by decide +kernel
theorem dX3_pair_72 : decode cX3_pair 72 = .ok (.iload_n 2, 1) := by decide +kernel
theorem dX3_pair_73 : decode cX3_pair 73 = .ok (.iload 5, 2) := by decide +kernel
theorem dX3_pair_75 : decode cX3_pair 75 = .ok (.ishr, 1) := by decide +kernel
theorem dX3_pair_76 : decode cX3_pair 76 = .ok (.iconst 1, 1) := by decide +kernel
theorem dX3_pair_77 : decode cX3_pair 77 = .ok (.iand, 1) := by decide +kernel
theorem dX3_pair_78 : decode cX3_pair 78 = .ok (.ifCond .eq 51, 3) := by decide +kernel
theorem dX3_pair_81 : decode cX3_pair 81 = .ok (.aload_n 0, 1) := by decide +kernel
theorem dX3_pair_82 : decode cX3_pair 82 = .ok (.getfield 9, 3) := by decide +kernel
theorem dX3_pair_85 : decode cX3_pair 85 = .ok (.iload 4, 2) := by decide +kernel
theorem dX3_pair_87 : decode cX3_pair 87 = .ok (.iload 5, 2) := by decide +kernel
theorem dX3_pair_89 : decode cX3_pair 89 = .ok (.iastore, 1) := by decide +kernel
theorem dX3_pair_90 : decode cX3_pair 90 = .ok (.aload_n 0, 1) := by decide +kernel
theorem dX3_pair_91 : decode cX3_pair 91 = .ok (.getfield 9, 3) := by decide +kernel
theorem dX3_pair_94 : decode cX3_pair 94 = .ok (.iload 5, 2) := by decide +kernel
theorem dX3_pair_96 : decode cX3_pair 96 = .ok (.iload 4, 2) := by decide +kernel
theorem dX3_pair_98 : decode cX3_pair 98 = .ok (.iastore, 1) := by decide +kernel
theorem dX3_pair_99 : decode cX3_pair 99 = .ok (.aload_n 0, 1) := by decide +kernel
theorem dX3_pair_100 : decode cX3_pair 100 = .ok (.aload_n 1, 1) := by decide +kernel
theorem dX3_pair_101 : decode cX3_pair 101 = .ok (.iload_n 2, 1) := by decide +kernel
theorem dX3_pair_102 : decode cX3_pair 102 = .ok (.iconst 1, 1) := by decide +kernel
theorem dX3_pair_103 : decode cX3_pair 103 = .ok (.iload 4, 2) := by decide +kernel
theorem dX3_pair_105 : decode cX3_pair 105 = .ok (.ishl, 1) := by decide +kernel
theorem dX3_pair_106 : decode cX3_pair 106 = .ok (.iconst (-1), 1) := by decide +kernel
theorem dX3_pair_107 : decode cX3_pair 107 = .ok (.ixor, 1) := by decide +kernel
theorem dX3_pair_108 : decode cX3_pair 108 = .ok (.iand, 1) := by decide +kernel
theorem dX3_pair_109 : decode cX3_pair 109 = .ok (.iconst 1, 1) := by decide +kernel
theorem dX3_pair_110 : decode cX3_pair 110 = .ok (.iload 5, 2) := by decide +kernel
theorem dX3_pair_112 : decode cX3_pair 112 = .ok (.ishl, 1) := by decide +kernel
theorem dX3_pair_113 : decode cX3_pair 113 = .ok (.iconst (-1), 1) := by decide +kernel
theorem dX3_pair_114 : decode cX3_pair 114 = .ok (.ixor, 1) := by decide +kernel
theorem dX3_pair_115 : decode cX3_pair 115 = .ok (.iand, 1) := by decide +kernel
theorem dX3_pair_116 : decode cX3_pair 116 = .ok (.iload_n 3, 1) := by decide +kernel
theorem dX3_pair_117 : decode cX3_pair 117 = .ok (.aload_n 1, 1) := by decide +kernel
theorem dX3_pair_118 : decode cX3_pair 118 = .ok (.iload 4, 2) := by decide +kernel
theorem dX3_pair_120 : decode cX3_pair 120 = .ok (.iload 5, 2) := by decide +kernel
theorem dX3_pair_122 : decode cX3_pair 122 = .ok (.invokevirtual 33, 3) := by decide +kernel
theorem dX3_pair_125 : decode cX3_pair 125 = .ok (.iadd, 1) := by decide +kernel
theorem dX3_pair_126 : decode cX3_pair 126 = .ok (.invokevirtual 23, 3) := by decide +kernel
theorem dX3_pair_129 : decode cX3_pair 129 = .ok (.iinc 5 1, 3) := by decide +kernel
theorem dX3_pair_132 : decode cX3_pair 132 = .ok (.goto (-67), 3) := by decide +kernel
theorem dX3_pair_135 : decode cX3_pair 135 = .ok (.return_, 1) := by decide +kernel
theorem dX4_init_0 : decode cX4_init 0 = .ok (.aload_n 0, 1) := by decide +kernel
theorem dX4_init_1 : decode cX4_init 1 = .ok (.invokespecial 3, 3) := by decide +kernel
theorem dX4_init_4 : decode cX4_init 4 = .ok (.aload_n 0, 1) := by decide +kernel
theorem dX4_init_5 : decode cX4_init 5 = .ok (.bipush 96, 2) := by decide +kernel
theorem dX4_init_7 : decode cX4_init 7 = .ok (.newarray .int, 2) := by decide +kernel
theorem dX4_init_9 : decode cX4_init 9 = .ok (.putfield 9, 3) := by decide +kernel
theorem dX4_init_12 : decode cX4_init 12 = .ok (.aload_n 0, 1) := by decide +kernel
theorem dX4_init_13 : decode cX4_init 13 = .ok (.iconst 0, 1) := by decide +kernel
theorem dX4_init_14 : decode cX4_init 14 = .ok (.putfield 15, 3) := by decide +kernel
theorem dX4_init_17 : decode cX4_init 17 = .ok (.aload_n 0, 1) := by decide +kernel
theorem dX4_init_18 : decode cX4_init 18 = .ok (.iconst 0, 1) := by decide +kernel
theorem dX4_init_19 : decode cX4_init 19 = .ok (.putfield 19, 3) := by decide +kernel
theorem dX4_init_22 : decode cX4_init 22 = .ok (.return_, 1) := by decide +kernel
theorem dX4_take_0 : decode cX4_take 0 = .ok (.aload_n 0, 1) := by decide +kernel
theorem dX4_take_1 : decode cX4_take 1 = .ok (.getfield 15, 3) := by decide +kernel
theorem dX4_take_4 : decode cX4_take 4 = .ok (.bipush 96, 2) := by decide +kernel
theorem dX4_take_6 : decode cX4_take 6 = .ok (.if_icmp .ge 23, 3) := by decide +kernel
theorem dX4_take_9 : decode cX4_take 9 = .ok (.aload_n 0, 1) := by decide +kernel
theorem dX4_take_10 : decode cX4_take 10 = .ok (.getfield 9, 3) := by decide +kernel
theorem dX4_take_13 : decode cX4_take 13 = .ok (.aload_n 0, 1) := by decide +kernel
theorem dX4_take_14 : decode cX4_take 14 = .ok (.getfield 15, 3) := by decide +kernel
theorem dX4_take_17 : decode cX4_take 17 = .ok (.iload_n 1, 1) := by decide +kernel
theorem dX4_take_18 : decode cX4_take 18 = .ok (.iastore, 1) := by decide +kernel
theorem dX4_take_19 : decode cX4_take 19 = .ok (.aload_n 0, 1) := by decide +kernel
theorem dX4_take_20 : decode cX4_take 20 = .ok (.dup, 1) := by decide +kernel
theorem dX4_take_21 : decode cX4_take 21 = .ok (.getfield 15, 3) := by decide +kernel
theorem dX4_take_24 : decode cX4_take 24 = .ok (.iconst 1, 1) := by decide +kernel
theorem dX4_take_25 : decode cX4_take 25 = .ok (.iadd, 1) := by decide +kernel
theorem dX4_take_26 : decode cX4_take 26 = .ok (.putfield 15, 3) := by decide +kernel
theorem dX4_take_29 : decode cX4_take 29 = .ok (.return_, 1) := by decide +kernel
theorem dX4_forget_0 : decode cX4_forget 0 = .ok (.aload_n 0, 1) := by decide +kernel
theorem dX4_forget_1 : decode cX4_forget 1 = .ok (.iconst 0, 1) := by decide +kernel
theorem dX4_forget_2 : decode cX4_forget 2 = .ok (.putfield 15, 3) := by decide +kernel
theorem dX4_forget_5 : decode cX4_forget 5 = .ok (.return_, 1) := by decide +kernel
theorem dX4_at_0 : decode cX4_at 0 = .ok (.iload_n 1, 1) := by decide +kernel
theorem dX4_at_1 : decode cX4_at 1 = .ok (.ifCond .lt 20, 3) := by decide +kernel
theorem dX4_at_4 : decode cX4_at 4 = .ok (.iload_n 1, 1) := by decide +kernel
theorem dX4_at_5 : decode cX4_at 5 = .ok (.aload_n 0, 1) := by decide +kernel
theorem dX4_at_6 : decode cX4_at 6 = .ok (.getfield 15, 3) := by decide +kernel
theorem dX4_at_9 : decode cX4_at 9 = .ok (.if_icmp .ge 12, 3) := by decide +kernel
theorem dX4_at_12 : decode cX4_at 12 = .ok (.aload_n 0, 1) := by decide +kernel
theorem dX4_at_13 : decode cX4_at 13 = .ok (.getfield 9, 3) := by decide +kernel
theorem dX4_at_16 : decode cX4_at 16 = .ok (.iload_n 1, 1) := by decide +kernel
theorem dX4_at_17 : decode cX4_at 17 = .ok (.iaload, 1) := by decide +kernel
theorem dX4_at_18 : decode cX4_at 18 = .ok (.goto 4, 3) := by decide +kernel
theorem dX4_at_21 : decode cX4_at 21 = .ok (.iconst (-1), 1) := by decide +kernel
theorem dX4_at_22 : decode cX4_at 22 = .ok (.ireturn, 1) := by decide +kernel
theorem dX4_formOf_0 : decode cX4_formOf 0 = .ok (.iload_n 0, 1) := by decide +kernel
theorem dX4_formOf_1 : decode cX4_formOf 1 = .ok (.lookupswitch 66 #[(104, 63), (107, 54), (108, 57), (115, 51), (120, 60)], 51) := by decide +kernel
theorem dX4_formOf_52 : decode cX4_formOf 52 = .ok (.ldc 22, 2) := by decide +kernel
theorem dX4_formOf_54 : decode cX4_formOf 54 = .ok (.areturn, 1) := by decide +kernel
theorem dX4_formOf_55 : decode cX4_formOf 55 = .ok (.ldc 24, 2) := by decide +kernel
theorem dX4_formOf_57 : decode cX4_formOf 57 = .ok (.areturn, 1) := by decide +kernel
theorem dX4_formOf_58 : decode cX4_formOf 58 = .ok (.ldc 24, 2) := by decide +kernel
theorem dX4_formOf_60 : decode cX4_formOf 60 = .ok (.areturn, 1) := by decide +kernel
theorem dX4_formOf_61 : decode cX4_formOf 61 = .ok (.ldc 26, 2) := by decide +kernel
theorem dX4_formOf_63 : decode cX4_formOf 63 = .ok (.areturn, 1) := by decide +kernel
theorem dX4_formOf_64 : decode cX4_formOf 64 = .ok (.ldc 28, 2) := by decide +kernel
theorem dX4_formOf_66 : decode cX4_formOf 66 = .ok (.areturn, 1) := by decide +kernel
theorem dX4_formOf_67 : decode cX4_formOf 67 = .ok (.ldc 30, 2) := by decide +kernel
theorem dX4_formOf_69 : decode cX4_formOf 69 = .ok (.areturn, 1) := by decide +kernel
theorem dX4_fits_0 : decode cX4_fits 0 = .ok (.iload_n 1, 1) := by decide +kernel
theorem dX4_fits_1 : decode cX4_fits 1 = .ok (.lookupswitch 63 #[(99, 27), (100, 45)], 27) := by decide +kernel
theorem dX4_fits_28 : decode cX4_fits 28 = .ok (.iload_n 0, 1) := by decide +kernel
theorem dX4_fits_29 : decode cX4_fits 29 = .ok (.bipush 97, 2) := by decide +kernel
theorem dX4_fits_31 : decode cX4_fits 31 = .ok (.if_icmp .lt 13, 3) := by decide +kernel
theorem dX4_fits_34 : decode cX4_fits 34 = .ok (.iload_n 0, 1) := by decide +kernel
theorem dX4_fits_35 : decode cX4_fits 35 = .ok (.bipush 122, 2) := by decide +kernel
theorem dX4_fits_37 : decode cX4_fits 37 = .ok (.if_icmp .gt 7, 3) := by decide +kernel
theorem dX4_fits_40 : decode cX4_fits 40 = .ok (.iconst 1, 1) := by decide +kernel
theorem dX4_fits_41 : decode cX4_fits 41 = .ok (.goto 4, 3) := by decide +kernel
theorem dX4_fits_44 : decode cX4_fits 44 = .ok (.iconst 0, 1) := by decide +kernel
theorem dX4_fits_45 : decode cX4_fits 45 = .ok (.ireturn, 1) := by decide +kernel
theorem dX4_fits_46 : decode cX4_fits 46 = .ok (.iload_n 0, 1) := by decide +kernel
theorem dX4_fits_47 : decode cX4_fits 47 = .ok (.bipush 48, 2) := by decide +kernel
theorem dX4_fits_49 : decode cX4_fits 49 = .ok (.if_icmp .lt 13, 3) := by decide +kernel
theorem dX4_fits_52 : decode cX4_fits 52 = .ok (.iload_n 0, 1) := by decide +kernel
theorem dX4_fits_53 : decode cX4_fits 53 = .ok (.bipush 57, 2) := by decide +kernel
theorem dX4_fits_55 : decode cX4_fits 55 = .ok (.if_icmp .gt 7, 3) := by decide +kernel
theorem dX4_fits_58 : decode cX4_fits 58 = .ok (.iconst 1, 1) := by decide +kernel
theorem dX4_fits_59 : decode cX4_fits 59 = .ok (.goto 4, 3) := by decide +kernel
theorem dX4_fits_62 : decode cX4_fits 62 = .ok (.iconst 0, 1) := by decide +kernel
theorem dX4_fits_63 : decode cX4_fits 63 = .ok (.ireturn, 1) := by decide +kernel
theorem dX4_fits_64 : decode cX4_fits 64 = .ok (.iload_n 0, 1) := by decide +kernel
theorem dX4_fits_65 : decode cX4_fits 65 = .ok (.iload_n 1, 1) := by decide +kernel
theorem dX4_fits_66 : decode cX4_fits 66 = .ok (.if_icmp .ne 7, 3) := by decide +kernel
theorem dX4_fits_69 : decode cX4_fits 69 = .ok (.iconst 1, 1) := by decide +kernel
theorem dX4_fits_70 : decode cX4_fits 70 = .ok (.goto 4, 3) := by decide +kernel
theorem dX4_fits_73 : decode cX4_fits 73 = .ok (.iconst 0, 1) := by decide +kernel
theorem dX4_fits_74 : decode cX4_fits 74 = .ok (.ireturn, 1) := by decide +kernel
theorem dX4_faultOfForm_0 : decode cX4_faultOfForm 0 = .ok (.iconst 0, 1) := by decide +kernel
theorem dX4_faultOfForm_1 : decode cX4_faultOfForm 1 = .ok (.istore_n 1, 1) := by decide +kernel
theorem dX4_faultOfForm_2 : decode cX4_faultOfForm 2 = .ok (.aload_n 0, 1) := by decide +kernel
theorem dX4_faultOfForm_3 : decode cX4_faultOfForm 3 = .ok (.iconst 0, 1) := by decide +kernel
theorem dX4_faultOfForm_4 : decode cX4_faultOfForm 4 = .ok (.putfield 19, 3) := by decide +kernel
theorem dX4_faultOfForm_7 : decode cX4_faultOfForm 7 = .ok (.aload_n 0, 1) := by decide +kernel
theorem dX4_faultOfForm_8 : decode cX4_faultOfForm 8 = .ok (.getfield 19, 3) := by decide +kernel
theorem dX4_faultOfForm_11 : decode cX4_faultOfForm 11 = .ok (.bipush 96, 2) := by decide +kernel
theorem dX4_faultOfForm_13 : decode cX4_faultOfForm 13 = .ok (.if_icmp .ge 81, 3) := by decide +kernel
theorem dX4_faultOfForm_16 : decode cX4_faultOfForm 16 = .ok (.aload_n 0, 1) := by decide +kernel
theorem dX4_faultOfForm_17 : decode cX4_faultOfForm 17 = .ok (.getfield 19, 3) := by decide +kernel
theorem dX4_faultOfForm_20 : decode cX4_faultOfForm 20 = .ok (.ifCond .le 14, 3) := by decide +kernel
theorem dX4_faultOfForm_23 : decode cX4_faultOfForm 23 = .ok (.iload_n 1, 1) := by decide +kernel
theorem dX4_faultOfForm_24 : decode cX4_faultOfForm 24 = .ok (.aload_n 0, 1) := by decide +kernel
theorem dX4_faultOfForm_25 : decode cX4_faultOfForm 25 = .ok (.getfield 15, 3) := by decide +kernel
theorem dX4_faultOfForm_28 : decode cX4_faultOfForm 28 = .ok (.if_icmp .lt 6, 3) := by decide +kernel
theorem dX4_faultOfForm_31 : decode cX4_faultOfForm 31 = .ok (.bipush (-9), 2) := by decide +kernel
theorem dX4_faultOfForm_33 : decode cX4_faultOfForm 33 = .ok (.ireturn, 1) := by decide +kernel
theorem dX4_faultOfForm_34 : decode cX4_faultOfForm 34 = .ok (.aload_n 0, 1) := by decide +kernel
theorem dX4_faultOfForm_35 : decode cX4_faultOfForm 35 = .ok (.iload_n 1, 1) := by decide +kernel
theorem dX4_faultOfForm_36 : decode cX4_faultOfForm 36 = .ok (.invokevirtual 32, 3) := by decide +kernel
theorem dX4_faultOfForm_39 : decode cX4_faultOfForm 39 = .ok (.invokestatic 36, 3) := by decide +kernel
theorem dX4_faultOfForm_42 : decode cX4_faultOfForm 42 = .ok (.astore_n 2, 1) := by decide +kernel
theorem dX4_faultOfForm_43 : decode cX4_faultOfForm 43 = .ok (.aload_n 0, 1) := by decide +kernel
theorem dX4_faultOfForm_44 : decode cX4_faultOfForm 44 = .ok (.iload_n 1, 1) := by decide +kernel
theorem dX4_faultOfForm_45 : decode cX4_faultOfForm 45 = .ok (.iconst 1, 1) := by decide +kernel
theorem dX4_faultOfForm_46 : decode cX4_faultOfForm 46 = .ok (.iadd, 1) := by decide +kernel
theorem dX4_faultOfForm_47 : decode cX4_faultOfForm 47 = .ok (.aload_n 2, 1) := by decide +kernel
theorem dX4_faultOfForm_48 : decode cX4_faultOfForm 48 = .ok (.invokevirtual 40, 3) := by decide +kernel
theorem dX4_faultOfForm_51 : decode cX4_faultOfForm 51 = .ok (.istore_n 3, 1) := by decide +kernel
theorem dX4_faultOfForm_52 : decode cX4_faultOfForm 52 = .ok (.aload_n 2, 1) := by decide +kernel
theorem dX4_faultOfForm_53 : decode cX4_faultOfForm 53 = .ok (.invokevirtual 44, 3) := by decide +kernel
theorem dX4_faultOfForm_56 : decode cX4_faultOfForm 56 = .ok (.ifCond .eq 5, 3) := by decide +kernel
theorem dX4_faultOfForm_59 : decode cX4_faultOfForm 59 = .ok (.iload_n 1, 1) := by decide +kernel
theorem dX4_faultOfForm_60 : decode cX4_faultOfForm 60 = .ok (.ireturn, 1) := by decide +kernel
theorem dX4_faultOfForm_61 : decode cX4_faultOfForm 61 = .ok (.iload_n 3, 1) := by decide +kernel
theorem dX4_faultOfForm_62 : decode cX4_faultOfForm 62 = .ok (.aload_n 2, 1) := by decide +kernel
theorem dX4_faultOfForm_63 : decode cX4_faultOfForm 63 = .ok (.invokevirtual 50, 3) := by decide +kernel
theorem dX4_faultOfForm_66 : decode cX4_faultOfForm 66 = .ok (.if_icmp .ge 9, 3) := by decide +kernel
theorem dX4_faultOfForm_69 : decode cX4_faultOfForm 69 = .ok (.iload_n 1, 1) := by decide +kernel
theorem dX4_faultOfForm_70 : decode cX4_faultOfForm 70 = .ok (.iconst 1, 1) := by decide +kernel
theorem dX4_faultOfForm_71 : decode cX4_faultOfForm 71 = .ok (.iadd, 1) := by decide +kernel
theorem dX4_faultOfForm_72 : decode cX4_faultOfForm 72 = .ok (.iload_n 3, 1) := by decide +kernel
theorem dX4_faultOfForm_73 : decode cX4_faultOfForm 73 = .ok (.iadd, 1) := by decide +kernel
theorem dX4_faultOfForm_74 : decode cX4_faultOfForm 74 = .ok (.ireturn, 1) := by decide +kernel
theorem dX4_faultOfForm_75 : decode cX4_faultOfForm 75 = .ok (.iload_n 1, 1) := by decide +kernel
theorem dX4_faultOfForm_76 : decode cX4_faultOfForm 76 = .ok (.iconst 1, 1) := by decide +kernel
theorem dX4_faultOfForm_77 : decode cX4_faultOfForm 77 = .ok (.iload_n 3, 1) := by decide +kernel
theorem dX4_faultOfForm_78 : decode cX4_faultOfForm 78 = .ok (.iadd, 1) := by decide +kernel
theorem dX4_faultOfForm_79 : decode cX4_faultOfForm 79 = .ok (.iadd, 1) := by decide +kernel
theorem dX4_faultOfForm_80 : decode cX4_faultOfForm 80 = .ok (.istore_n 1, 1) := by decide +kernel
theorem dX4_faultOfForm_81 : decode cX4_faultOfForm 81 = .ok (.aload_n 0, 1) := by decide +kernel
theorem dX4_faultOfForm_82 : decode cX4_faultOfForm 82 = .ok (.dup, 1) := by decide +kernel
theorem dX4_faultOfForm_83 : decode cX4_faultOfForm 83 = .ok (.getfield 19, 3) := by decide +kernel
theorem dX4_faultOfForm_86 : decode cX4_faultOfForm 86 = .ok (.iconst 1, 1) := by decide +kernel
theorem dX4_faultOfForm_87 : decode cX4_faultOfForm 87 = .ok (.iadd, 1) := by decide +kernel
theorem dX4_faultOfForm_88 : decode cX4_faultOfForm 88 = .ok (.putfield 19, 3) := by decide +kernel
theorem dX4_faultOfForm_91 : decode cX4_faultOfForm 91 = .ok (.goto (-84), 3) := by decide +kernel
theorem dX4_faultOfForm_94 : decode cX4_faultOfForm 94 = .ok (.bipush (-9), 2) := by decide +kernel
theorem dX4_faultOfForm_96 : decode cX4_faultOfForm 96 = .ok (.ireturn, 1) := by decide +kernel
theorem dX4_fitting_0 : decode cX4_fitting 0 = .ok (.iconst 0, 1) := by decide +kernel
theorem dX4_fitting_1 : decode cX4_fitting 1 = .ok (.istore_n 3, 1) := by decide +kernel
theorem dX4_fitting_2 : decode cX4_fitting 2 = .ok (.iload_n 3, 1) := by decide +kernel
theorem dX4_fitting_3 : decode cX4_fitting 3 = .ok (.aload_n 2, 1) := by decide +kernel
theorem dX4_fitting_4 : decode cX4_fitting 4 = .ok (.invokevirtual 50, 3) := by decide +kernel
theorem dX4_fitting_7 : decode cX4_fitting 7 = .ok (.if_icmp .ge 27, 3) := by decide +kernel
theorem dX4_fitting_10 : decode cX4_fitting 10 = .ok (.aload_n 0, 1) := by decide +kernel
theorem dX4_fitting_11 : decode cX4_fitting 11 = .ok (.iload_n 1, 1) := by decide +kernel
theorem dX4_fitting_12 : decode cX4_fitting 12 = .ok (.iload_n 3, 1) := by decide +kernel
theorem dX4_fitting_13 : decode cX4_fitting 13 = .ok (.iadd, 1) := by decide +kernel
theorem dX4_fitting_14 : decode cX4_fitting 14 = .ok (.invokevirtual 32, 3) := by decide +kernel
theorem dX4_fitting_17 : decode cX4_fitting 17 = .ok (.aload_n 2, 1) := by decide +kernel
theorem dX4_fitting_18 : decode cX4_fitting 18 = .ok (.iload_n 3, 1) := by decide +kernel
theorem dX4_fitting_19 : decode cX4_fitting 19 = .ok (.invokevirtual 54, 3) := by decide +kernel
theorem dX4_fitting_22 : decode cX4_fitting 22 = .ok (.invokestatic 58, 3) := by decide +kernel
theorem dX4_fitting_25 : decode cX4_fitting 25 = .ok (.ifCond .eq 9, 3) := by decide +kernel
theorem dX4_fitting_28 : decode cX4_fitting 28 = .ok (.iinc 3 1, 3) := by decide +kernel
theorem dX4_fitting_31 : decode cX4_fitting 31 = .ok (.goto (-29), 3) := by decide +kernel
theorem dX4_fitting_34 : decode cX4_fitting 34 = .ok (.iload_n 3, 1) := by decide +kernel
theorem dX4_fitting_35 : decode cX4_fitting 35 = .ok (.ireturn, 1) := by decide +kernel
theorem dX4_build_0 : decode cX4_build 0 = .ok (.iconst 0, 1) := by decide +kernel
theorem dX4_build_1 : decode cX4_build 1 = .ok (.istore_n 2, 1) := by decide +kernel
theorem dX4_build_2 : decode cX4_build 2 = .ok (.iconst 0, 1) := by decide +kernel
theorem dX4_build_3 : decode cX4_build 3 = .ok (.istore_n 3, 1) := by decide +kernel
theorem dX4_build_4 : decode cX4_build 4 = .ok (.iload_n 3, 1) := by decide +kernel
theorem dX4_build_5 : decode cX4_build 5 = .ok (.aload_n 0, 1) := by decide +kernel
theorem dX4_build_6 : decode cX4_build 6 = .ok (.getfield 19, 3) := by decide +kernel
theorem dX4_build_9 : decode cX4_build 9 = .ok (.if_icmp .ge 36, 3) := by decide +kernel
theorem dX4_build_12 : decode cX4_build 12 = .ok (.aload_n 0, 1) := by decide +kernel
theorem dX4_build_13 : decode cX4_build 13 = .ok (.aload_n 1, 1) := by decide +kernel
theorem dX4_build_14 : decode cX4_build 14 = .ok (.iload_n 2, 1) := by decide +kernel
theorem dX4_build_15 : decode cX4_build 15 = .ok (.invokevirtual 62, 3) := by decide +kernel
theorem dX4_build_18 : decode cX4_build 18 = .ok (.ifCond .ne 5, 3) := by decide +kernel
theorem dX4_build_21 : decode cX4_build 21 = .ok (.iload_n 2, 1) := by decide +kernel
theorem dX4_build_22 : decode cX4_build 22 = .ok (.ireturn, 1) := by decide +kernel
theorem dX4_build_23 : decode cX4_build 23 = .ok (.iload_n 2, 1) := by decide +kernel
theorem dX4_build_24 : decode cX4_build 24 = .ok (.iconst 1, 1) := by decide +kernel
theorem dX4_build_25 : decode cX4_build 25 = .ok (.aload_n 0, 1) := by decide +kernel
theorem dX4_build_26 : decode cX4_build 26 = .ok (.iload_n 2, 1) := by decide +kernel
theorem dX4_build_27 : decode cX4_build 27 = .ok (.invokevirtual 32, 3) := by decide +kernel
theorem dX4_build_30 : decode cX4_build 30 = .ok (.invokestatic 36, 3) := by decide +kernel
theorem dX4_build_33 : decode cX4_build 33 = .ok (.invokevirtual 50, 3) := by decide +kernel
theorem dX4_build_36 : decode cX4_build 36 = .ok (.iadd, 1) := by decide +kernel
theorem dX4_build_37 : decode cX4_build 37 = .ok (.iadd, 1) := by decide +kernel
theorem dX4_build_38 : decode cX4_build 38 = .ok (.istore_n 2, 1) := by decide +kernel
theorem dX4_build_39 : decode cX4_build 39 = .ok (.iinc 3 1, 3) := by decide +kernel
theorem dX4_build_42 : decode cX4_build 42 = .ok (.goto (-38), 3) := by decide +kernel
theorem dX4_build_45 : decode cX4_build 45 = .ok (.bipush (-9), 2) := by decide +kernel
theorem dX4_build_47 : decode cX4_build 47 = .ok (.ireturn, 1) := by decide +kernel
theorem dX4_tell_0 : decode cX4_tell 0 = .ok (.aload_n 0, 1) := by decide +kernel
theorem dX4_tell_1 : decode cX4_tell 1 = .ok (.iload_n 2, 1) := by decide +kernel
theorem dX4_tell_2 : decode cX4_tell 2 = .ok (.invokevirtual 32, 3) := by decide +kernel
theorem dX4_tell_5 : decode cX4_tell 5 = .ok (.lookupswitch 71 #[(107, 50), (108, 57), (115, 43), (120, 64)], 43) := by decide +kernel
theorem dX4_tell_48 : decode cX4_tell 48 = .ok (.aload_n 0, 1) := by decide +kernel
theorem dX4_tell_49 : decode cX4_tell 49 = .ok (.aload_n 1, 1) := by decide +kernel
theorem dX4_tell_50 : decode cX4_tell 50 = .ok (.iload_n 2, 1) := by decide +kernel
theorem dX4_tell_51 : decode cX4_tell 51 = .ok (.invokevirtual 66, 3) := by decide +kernel
theorem dX4_tell_54 : decode cX4_tell 54 = .ok (.ireturn, 1) := by decide +kernel
theorem dX4_tell_55 : decode cX4_tell 55 = .ok (.aload_n 0, 1) := by decide +kernel
theorem dX4_tell_56 : decode cX4_tell 56 = .ok (.aload_n 1, 1) := by decide +kernel
theorem dX4_tell_57 : decode cX4_tell 57 = .ok (.iload_n 2, 1) := by decide +kernel
theorem dX4_tell_58 : decode cX4_tell 58 = .ok (.invokevirtual 69, 3) := by decide +kernel
theorem dX4_tell_61 : decode cX4_tell 61 = .ok (.ireturn, 1) := by decide +kernel
theorem dX4_tell_62 : decode cX4_tell 62 = .ok (.aload_n 0, 1) := by decide +kernel
theorem dX4_tell_63 : decode cX4_tell 63 = .ok (.aload_n 1, 1) := by decide +kernel
theorem dX4_tell_64 : decode cX4_tell 64 = .ok (.iload_n 2, 1) := by decide +kernel
theorem dX4_tell_65 : decode cX4_tell 65 = .ok (.invokevirtual 72, 3) := by decide +kernel
theorem dX4_tell_68 : decode cX4_tell 68 = .ok (.ireturn, 1) := by decide +kernel
theorem dX4_tell_69 : decode cX4_tell 69 = .ok (.aload_n 0, 1) := by decide +kernel
theorem dX4_tell_70 : decode cX4_tell 70 = .ok (.aload_n 1, 1) := by decide +kernel
theorem dX4_tell_71 : decode cX4_tell 71 = .ok (.iload_n 2, 1) := by decide +kernel
theorem dX4_tell_72 : decode cX4_tell 72 = .ok (.invokevirtual 75, 3) := by decide +kernel
theorem dX4_tell_75 : decode cX4_tell 75 = .ok (.ireturn, 1) := by decide +kernel
theorem dX4_tell_76 : decode cX4_tell 76 = .ok (.aload_n 0, 1) := by decide +kernel
theorem dX4_tell_77 : decode cX4_tell 77 = .ok (.aload_n 1, 1) := by decide +kernel
theorem dX4_tell_78 : decode cX4_tell 78 = .ok (.iload_n 2, 1) := by decide +kernel
theorem dX4_tell_79 : decode cX4_tell 79 = .ok (.invokevirtual 78, 3) := by decide +kernel
theorem dX4_tell_82 : decode cX4_tell 82 = .ok (.ireturn, 1) := by decide +kernel
theorem dX4_tellStreet_0 : decode cX4_tellStreet 0 = .ok (.aload_n 0, 1) := by decide +kernel
theorem dX4_tellStreet_1 : decode cX4_tellStreet 1 = .ok (.iload_n 2, 1) := by decide +kernel
theorem dX4_tellStreet_2 : decode cX4_tellStreet 2 = .ok (.iconst 1, 1) := by decide +kernel
theorem dX4_tellStreet_3 : decode cX4_tellStreet 3 = .ok (.iadd, 1) := by decide +kernel
theorem dX4_tellStreet_4 : decode cX4_tellStreet 4 = .ok (.invokevirtual 32, 3) := by decide +kernel
theorem dX4_tellStreet_7 : decode cX4_tellStreet 7 = .ok (.bipush 97, 2) := by decide +kernel
theorem dX4_tellStreet_9 : decode cX4_tellStreet 9 = .ok (.isub, 1) := by decide +kernel
theorem dX4_tellStreet_10 : decode cX4_tellStreet 10 = .ok (.istore_n 3, 1) := by decide +kernel
theorem dX4_tellStreet_11 : decode cX4_tellStreet 11 = .ok (.aload_n 0, 1) := by decide +kernel
theorem dX4_tellStreet_12 : decode cX4_tellStreet 12 = .ok (.iload_n 2, 1) := by decide +kernel
theorem dX4_tellStreet_13 : decode cX4_tellStreet 13 = .ok (.iconst 2, 1) := by decide +kernel
theorem dX4_tellStreet_14 : decode cX4_tellStreet 14 = .ok (.iadd, 1) := by decide +kernel
theorem dX4_tellStreet_15 : decode cX4_tellStreet 15 = .ok (.invokevirtual 32, 3) := by decide +kernel
theorem dX4_tellStreet_18 : decode cX4_tellStreet 18 = .ok (.bipush 97, 2) := by decide +kernel
theorem dX4_tellStreet_20 : decode cX4_tellStreet 20 = .ok (.isub, 1) := by decide +kernel
theorem dX4_tellStreet_21 : decode cX4_tellStreet 21 = .ok (.istore 4, 2) := by decide +kernel
theorem dX4_tellStreet_23 : decode cX4_tellStreet 23 = .ok (.aload_n 0, 1) := by decide +kernel
theorem dX4_tellStreet_24 : decode cX4_tellStreet 24 = .ok (.iload_n 2, 1) := by decide +kernel
theorem dX4_tellStreet_25 : decode cX4_tellStreet 25 = .ok (.iconst 3, 1) := by decide +kernel
theorem dX4_tellStreet_26 : decode cX4_tellStreet 26 = .ok (.iadd, 1) := by decide +kernel
theorem dX4_tellStreet_27 : decode cX4_tellStreet 27 = .ok (.invokevirtual 81, 3) := by decide +kernel
theorem dX4_tellStreet_30 : decode cX4_tellStreet 30 = .ok (.istore 5, 2) := by decide +kernel
theorem dX4_tellStreet_32 : decode cX4_tellStreet 32 = .ok (.iload_n 3, 1) := by decide +kernel
theorem dX4_tellStreet_33 : decode cX4_tellStreet 33 = .ok (.invokestatic 84, 3) := by decide +kernel
theorem dX4_tellStreet_36 : decode cX4_tellStreet 36 = .ok (.ifCond .eq 30, 3) := by decide +kernel
theorem dX4_tellStreet_39 : decode cX4_tellStreet 39 = .ok (.iload 4, 2) := by decide +kernel
theorem dX4_tellStreet_41 : decode cX4_tellStreet 41 = .ok (.invokestatic 84, 3) := by decide +kernel
theorem dX4_tellStreet_44 : decode cX4_tellStreet 44 = .ok (.ifCond .eq 22, 3) := by decide +kernel
theorem dX4_tellStreet_47 : decode cX4_tellStreet 47 = .ok (.iload_n 3, 1) := by decide +kernel
theorem dX4_tellStreet_48 : decode cX4_tellStreet 48 = .ok (.iload 4, 2) := by decide +kernel
theorem dX4_tellStreet_50 : decode cX4_tellStreet 50 = .ok (.if_icmp .eq 16, 3) := by decide +kernel
theorem dX4_tellStreet_53 : decode cX4_tellStreet 53 = .ok (.iload 5, 2) := by decide +kernel
theorem dX4_tellStreet_55 : decode cX4_tellStreet 55 = .ok (.iconst 1, 1) := by decide +kernel
theorem dX4_tellStreet_56 : decode cX4_tellStreet 56 = .ok (.if_icmp .lt 10, 3) := by decide +kernel
theorem dX4_tellStreet_59 : decode cX4_tellStreet 59 = .ok (.aload_n 1, 1) := by decide +kernel
theorem dX4_tellStreet_60 : decode cX4_tellStreet 60 = .ok (.invokevirtual 88, 3) := by decide +kernel
theorem dX4_tellStreet_63 : decode cX4_tellStreet 63 = .ok (.ifCond .ne 5, 3) := by decide +kernel
theorem dX4_tellStreet_66 : decode cX4_tellStreet 66 = .ok (.iconst 0, 1) := by decide +kernel
theorem dX4_tellStreet_67 : decode cX4_tellStreet 67 = .ok (.ireturn, 1) := by decide +kernel
theorem dX4_tellStreet_68 : decode cX4_tellStreet 68 = .ok (.aload_n 1, 1) := by decide +kernel
theorem dX4_tellStreet_69 : decode cX4_tellStreet 69 = .ok (.iload_n 3, 1) := by decide +kernel
theorem dX4_tellStreet_70 : decode cX4_tellStreet 70 = .ok (.iload 4, 2) := by decide +kernel
theorem dX4_tellStreet_72 : decode cX4_tellStreet 72 = .ok (.iload 5, 2) := by decide +kernel
theorem dX4_tellStreet_74 : decode cX4_tellStreet 74 = .ok (.invokevirtual 93, 3) := by decide +kernel
theorem dX4_tellStreet_77 : decode cX4_tellStreet 77 = .ok (.iconst 1, 1) := by decide +kernel
theorem dX4_tellStreet_78 : decode cX4_tellStreet 78 = .ok (.ireturn, 1) := by decide +kernel
theorem dX4_tellHome_0 : decode cX4_tellHome 0 = .ok (.aload_n 0, 1) := by decide +kernel
theorem dX4_tellHome_1 : decode cX4_tellHome 1 = .ok (.iload_n 2, 1) := by decide +kernel
theorem dX4_tellHome_2 : decode cX4_tellHome 2 = .ok (.iconst 1, 1) := by decide +kernel
theorem dX4_tellHome_3 : decode cX4_tellHome 3 = .ok (.iadd, 1) := by decide +kernel
theorem dX4_tellHome_4 : decode cX4_tellHome 4 = .ok (.invokevirtual 32, 3) := by decide +kernel
theorem dX4_tellHome_7 : decode cX4_tellHome 7 = .ok (.bipush 97, 2) := by decide +kernel
theorem dX4_tellHome_9 : decode cX4_tellHome 9 = .ok (.isub, 1) := by decide +kernel
theorem dX4_tellHome_10 : decode cX4_tellHome 10 = .ok (.istore_n 3, 1) := by decide +kernel
theorem dX4_tellHome_11 : decode cX4_tellHome 11 = .ok (.iload_n 3, 1) := by decide +kernel
theorem dX4_tellHome_12 : decode cX4_tellHome 12 = .ok (.invokestatic 84, 3) := by decide +kernel
theorem dX4_tellHome_15 : decode cX4_tellHome 15 = .ok (.ifCond .ne 5, 3) := by decide +kernel
theorem dX4_tellHome_18 : decode cX4_tellHome 18 = .ok (.iconst 0, 1) := by decide +kernel
theorem dX4_tellHome_19 : decode cX4_tellHome 19 = .ok (.ireturn, 1) := by decide +kernel
theorem dX4_tellHome_20 : decode cX4_tellHome 20 = .ok (.aload_n 1, 1) := by decide +kernel
theorem dX4_tellHome_21 : decode cX4_tellHome 21 = .ok (.iload_n 3, 1) := by decide +kernel
theorem dX4_tellHome_22 : decode cX4_tellHome 22 = .ok (.putfield 97, 3) := by decide +kernel
theorem dX4_tellHome_25 : decode cX4_tellHome 25 = .ok (.iconst 1, 1) := by decide +kernel
theorem dX4_tellHome_26 : decode cX4_tellHome 26 = .ok (.ireturn, 1) := by decide +kernel
theorem dX4_tellKind_0 : decode cX4_tellKind 0 = .ok (.aload_n 0, 1) := by decide +kernel
theorem dX4_tellKind_1 : decode cX4_tellKind 1 = .ok (.iload_n 2, 1) := by decide +kernel
theorem dX4_tellKind_2 : decode cX4_tellKind 2 = .ok (.iconst 1, 1) := by decide +kernel
theorem dX4_tellKind_3 : decode cX4_tellKind 3 = .ok (.iadd, 1) := by decide +kernel
theorem dX4_tellKind_4 : decode cX4_tellKind 4 = .ok (.invokevirtual 100, 3) := by decide +kernel
theorem dX4_tellKind_7 : decode cX4_tellKind 7 = .ok (.istore_n 3, 1) := by decide +kernel
theorem dX4_tellKind_8 : decode cX4_tellKind 8 = .ok (.aload_n 0, 1) := by decide +kernel
theorem dX4_tellKind_9 : decode cX4_tellKind 9 = .ok (.iload_n 2, 1) := by decide +kernel
theorem dX4_tellKind_10 : decode cX4_tellKind 10 = .ok (.iconst 2, 1) := by decide +kernel
theorem dX4_tellKind_11 : decode cX4_tellKind 11 = .ok (.iadd, 1) := by decide +kernel
theorem dX4_tellKind_12 : decode cX4_tellKind 12 = .ok (.invokevirtual 100, 3) := by decide +kernel
theorem dX4_tellKind_15 : decode cX4_tellKind 15 = .ok (.istore 4, 2) := by decide +kernel
theorem dX4_tellKind_17 : decode cX4_tellKind 17 = .ok (.aload_n 1, 1) := by decide +kernel
theorem dX4_tellKind_18 : decode cX4_tellKind 18 = .ok (.iload_n 3, 1) := by decide +kernel
theorem dX4_tellKind_19 : decode cX4_tellKind 19 = .ok (.invokevirtual 103, 3) := by decide +kernel
theorem dX4_tellKind_22 : decode cX4_tellKind 22 = .ok (.ifCond .eq 15, 3) := by decide +kernel
theorem dX4_tellKind_25 : decode cX4_tellKind 25 = .ok (.iload 4, 2) := by decide +kernel
theorem dX4_tellKind_27 : decode cX4_tellKind 27 = .ok (.ifCond .lt 10, 3) := by decide +kernel
theorem dX4_tellKind_30 : decode cX4_tellKind 30 = .ok (.iload 4, 2) := by decide +kernel
theorem dX4_tellKind_32 : decode cX4_tellKind 32 = .ok (.bipush 6, 2) := by decide +kernel
theorem dX4_tellKind_34 : decode cX4_tellKind 34 = .ok (.if_icmp .lt 5, 3) := by decide +kernel
theorem dX4_tellKind_37 : decode cX4_tellKind 37 = .ok (.iconst 0, 1) := by decide +kernel
theorem dX4_tellKind_38 : decode cX4_tellKind 38 = .ok (.ireturn, 1) := by decide +kernel
theorem dX4_tellKind_39 : decode cX4_tellKind 39 = .ok (.aload_n 1, 1) := by decide +kernel
theorem dX4_tellKind_40 : decode cX4_tellKind 40 = .ok (.getfield 106, 3) := by decide +kernel
theorem dX4_tellKind_43 : decode cX4_tellKind 43 = .ok (.iload_n 3, 1) := by decide +kernel
theorem dX4_tellKind_44 : decode cX4_tellKind 44 = .ok (.iload 4, 2) := by decide +kernel
theorem dX4_tellKind_46 : decode cX4_tellKind 46 = .ok (.iastore, 1) := by decide +kernel
theorem dX4_tellKind_47 : decode cX4_tellKind 47 = .ok (.aload_n 1, 1) := by decide +kernel
theorem dX4_tellKind_48 : decode cX4_tellKind 48 = .ok (.getfield 109, 3) := by decide +kernel
theorem dX4_tellKind_51 : decode cX4_tellKind 51 = .ok (.iload_n 3, 1) := by decide +kernel
theorem dX4_tellKind_52 : decode cX4_tellKind 52 = .ok (.aload_n 0, 1) := by decide +kernel
theorem dX4_tellKind_53 : decode cX4_tellKind 53 = .ok (.iload_n 2, 1) := by decide +kernel
theorem dX4_tellKind_54 : decode cX4_tellKind 54 = .ok (.iconst 3, 1) := by decide +kernel
theorem dX4_tellKind_55 : decode cX4_tellKind 55 = .ok (.iadd, 1) := by decide +kernel
theorem dX4_tellKind_56 : decode cX4_tellKind 56 = .ok (.invokevirtual 100, 3) := by decide +kernel
theorem dX4_tellKind_59 : decode cX4_tellKind 59 = .ok (.iastore, 1) := by decide +kernel
theorem dX4_tellKind_60 : decode cX4_tellKind 60 = .ok (.iconst 1, 1) := by decide +kernel
theorem dX4_tellKind_61 : decode cX4_tellKind 61 = .ok (.ireturn, 1) := by decide +kernel
theorem dX4_tellLength_0 : decode cX4_tellLength 0 = .ok (.aload_n 0, 1) := by decide +kernel
theorem dX4_tellLength_1 : decode cX4_tellLength 1 = .ok (.iload_n 2, 1) := by decide +kernel
theorem dX4_tellLength_2 : decode cX4_tellLength 2 = .ok (.iconst 1, 1) := by decide +kernel
theorem dX4_tellLength_3 : decode cX4_tellLength 3 = .ok (.iadd, 1) := by decide +kernel
theorem dX4_tellLength_4 : decode cX4_tellLength 4 = .ok (.invokevirtual 100, 3) := by decide +kernel
theorem dX4_tellLength_7 : decode cX4_tellLength 7 = .ok (.istore_n 3, 1) := by decide +kernel
theorem dX4_tellLength_8 : decode cX4_tellLength 8 = .ok (.aload_n 0, 1) := by decide +kernel
theorem dX4_tellLength_9 : decode cX4_tellLength 9 = .ok (.iload_n 2, 1) := by decide +kernel
theorem dX4_tellLength_10 : decode cX4_tellLength 10 = .ok (.iconst 2, 1) := by decide +kernel
theorem dX4_tellLength_11 : decode cX4_tellLength 11 = .ok (.iadd, 1) := by decide +kernel
theorem dX4_tellLength_12 : decode cX4_tellLength 12 = .ok (.invokevirtual 81, 3) := by decide +kernel
theorem dX4_tellLength_15 : decode cX4_tellLength 15 = .ok (.istore 4, 2) := by decide +kernel
theorem dX4_tellLength_17 : decode cX4_tellLength 17 = .ok (.aload_n 1, 1) := by decide +kernel
theorem dX4_tellLength_18 : decode cX4_tellLength 18 = .ok (.iload_n 3, 1) := by decide +kernel
theorem dX4_tellLength_19 : decode cX4_tellLength 19 = .ok (.invokevirtual 103, 3) := by decide +kernel
theorem dX4_tellLength_22 : decode cX4_tellLength 22 = .ok (.ifCond .eq 9, 3) := by decide +kernel
theorem dX4_tellLength_25 : decode cX4_tellLength 25 = .ok (.iload 4, 2) := by decide +kernel
theorem dX4_tellLength_27 : decode cX4_tellLength 27 = .ok (.iconst 1, 1) := by decide +kernel
theorem dX4_tellLength_28 : decode cX4_tellLength 28 = .ok (.if_icmp .ge 5, 3) := by decide +kernel
theorem dX4_tellLength_31 : decode cX4_tellLength 31 = .ok (.iconst 0, 1) := by decide +kernel
theorem dX4_tellLength_32 : decode cX4_tellLength 32 = .ok (.ireturn, 1) := by decide +kernel
theorem dX4_tellLength_33 : decode cX4_tellLength 33 = .ok (.aload_n 1, 1) := by decide +kernel
theorem dX4_tellLength_34 : decode cX4_tellLength 34 = .ok (.getfield 112, 3) := by decide +kernel
theorem dX4_tellLength_37 : decode cX4_tellLength 37 = .ok (.iload_n 3, 1) := by decide +kernel
theorem dX4_tellLength_38 : decode cX4_tellLength 38 = .ok (.iload 4, 2) := by decide +kernel
theorem dX4_tellLength_40 : decode cX4_tellLength 40 = .ok (.iastore, 1) := by decide +kernel
theorem dX4_tellLength_41 : decode cX4_tellLength 41 = .ok (.iconst 1, 1) := by decide +kernel
theorem dX4_tellLength_42 : decode cX4_tellLength 42 = .ok (.ireturn, 1) := by decide +kernel
theorem dX4_tellTurn_0 : decode cX4_tellTurn 0 = .ok (.aload_n 0, 1) := by decide +kernel
theorem dX4_tellTurn_1 : decode cX4_tellTurn 1 = .ok (.iload_n 2, 1) := by decide +kernel
theorem dX4_tellTurn_2 : decode cX4_tellTurn 2 = .ok (.iconst 1, 1) := by decide +kernel
theorem dX4_tellTurn_3 : decode cX4_tellTurn 3 = .ok (.iadd, 1) := by decide +kernel
theorem dX4_tellTurn_4 : decode cX4_tellTurn 4 = .ok (.invokevirtual 100, 3) := by decide +kernel
theorem dX4_tellTurn_7 : decode cX4_tellTurn 7 = .ok (.istore_n 3, 1) := by decide +kernel
theorem dX4_tellTurn_8 : decode cX4_tellTurn 8 = .ok (.aload_n 1, 1) := by decide +kernel
theorem dX4_tellTurn_9 : decode cX4_tellTurn 9 = .ok (.iload_n 3, 1) := by decide +kernel
theorem dX4_tellTurn_10 : decode cX4_tellTurn 10 = .ok (.invokevirtual 103, 3) := by decide +kernel
theorem dX4_tellTurn_13 : decode cX4_tellTurn 13 = .ok (.ifCond .ne 5, 3) := by decide +kernel
theorem dX4_tellTurn_16 : decode cX4_tellTurn 16 = .ok (.iconst 0, 1) := by decide +kernel
theorem dX4_tellTurn_17 : decode cX4_tellTurn 17 = .ok (.ireturn, 1) := by decide +kernel
theorem dX4_tellTurn_18 : decode cX4_tellTurn 18 = .ok (.aload_n 1, 1) := by decide +kernel
theorem dX4_tellTurn_19 : decode cX4_tellTurn 19 = .ok (.iload_n 3, 1) := by decide +kernel
theorem dX4_tellTurn_20 : decode cX4_tellTurn 20 = .ok (.invokevirtual 115, 3) := by decide +kernel
theorem dX4_tellTurn_23 : decode cX4_tellTurn 23 = .ok (.iconst 1, 1) := by decide +kernel
theorem dX4_tellTurn_24 : decode cX4_tellTurn 24 = .ok (.ireturn, 1) := by decide +kernel
theorem dX4_digit_0 : decode cX4_digit 0 = .ok (.aload_n 0, 1) := by decide +kernel
theorem dX4_digit_1 : decode cX4_digit 1 = .ok (.iload_n 1, 1) := by decide +kernel
theorem dX4_digit_2 : decode cX4_digit 2 = .ok (.invokevirtual 32, 3) := by decide +kernel
theorem dX4_digit_5 : decode cX4_digit 5 = .ok (.bipush 48, 2) := by decide +kernel
theorem dX4_digit_7 : decode cX4_digit 7 = .ok (.isub, 1) := by decide +kernel
theorem dX4_digit_8 : decode cX4_digit 8 = .ok (.ireturn, 1) := by decide +kernel
theorem dX4_number_0 : decode cX4_number 0 = .ok (.bipush 10, 2) := by decide +kernel
theorem dX4_number_2 : decode cX4_number 2 = .ok (.aload_n 0, 1) := by decide +kernel
theorem dX4_number_3 : decode cX4_number 3 = .ok (.iload_n 1, 1) := by decide +kernel
theorem dX4_number_4 : decode cX4_number 4 = .ok (.invokevirtual 100, 3) := by decide +kernel
theorem dX4_number_7 : decode cX4_number 7 = .ok (.imul, 1) := by decide +kernel
theorem dX4_number_8 : decode cX4_number 8 = .ok (.aload_n 0, 1) := by decide +kernel
theorem dX4_number_9 : decode cX4_number 9 = .ok (.iload_n 1, 1) := by decide +kernel
theorem dX4_number_10 : decode cX4_number 10 = .ok (.iconst 1, 1) := by decide +kernel
theorem dX4_number_11 : decode cX4_number 11 = .ok (.iadd, 1) := by decide +kernel
theorem dX4_number_12 : decode cX4_number 12 = .ok (.invokevirtual 100, 3) := by decide +kernel
theorem dX4_number_15 : decode cX4_number 15 = .ok (.iadd, 1) := by decide +kernel
theorem dX4_number_16 : decode cX4_number 16 = .ok (.ireturn, 1) := by decide +kernel
theorem dX5_init_0 : decode cX5_init 0 = .ok (.aload_n 0, 1) := by decide +kernel
theorem dX5_init_1 : decode cX5_init 1 = .ok (.invokespecial 3, 3) := by decide +kernel
theorem dX5_init_4 : decode cX5_init 4 = .ok (.aload_n 0, 1) := by decide +kernel
theorem dX5_init_5 : decode cX5_init 5 = .ok (.bipush 8, 2) := by decide +kernel
theorem dX5_init_7 : decode cX5_init 7 = .ok (.newarray .int, 2) := by decide +kernel
theorem dX5_init_9 : decode cX5_init 9 = .ok (.putfield 9, 3) := by decide +kernel
theorem dX5_init_12 : decode cX5_init 12 = .ok (.aload_n 0, 1) := by decide +kernel
theorem dX5_init_13 : decode cX5_init 13 = .ok (.bipush 32, 2) := by decide +kernel
theorem dX5_init_15 : decode cX5_init 15 = .ok (.newarray .int, 2) := by decide +kernel
theorem dX5_init_17 : decode cX5_init 17 = .ok (.putfield 15, 3) := by decide +kernel
theorem dX5_init_20 : decode cX5_init 20 = .ok (.aload_n 0, 1) := by decide +kernel
theorem dX5_init_21 : decode cX5_init 21 = .ok (.iconst 0, 1) := by decide +kernel
theorem dX5_init_22 : decode cX5_init 22 = .ok (.putfield 18, 3) := by decide +kernel
theorem dX5_init_25 : decode cX5_init 25 = .ok (.aload_n 0, 1) := by decide +kernel
theorem dX5_init_26 : decode cX5_init 26 = .ok (.bipush 32, 2) := by decide +kernel
theorem dX5_init_28 : decode cX5_init 28 = .ok (.newarray .int, 2) := by decide +kernel
theorem dX5_init_30 : decode cX5_init 30 = .ok (.putfield 22, 3) := by decide +kernel
theorem dX5_init_33 : decode cX5_init 33 = .ok (.aload_n 0, 1) := by decide +kernel
theorem dX5_init_34 : decode cX5_init 34 = .ok (.iconst 0, 1) := by decide +kernel
theorem dX5_init_35 : decode cX5_init 35 = .ok (.putfield 25, 3) := by decide +kernel
theorem dX5_init_38 : decode cX5_init 38 = .ok (.return_, 1) := by decide +kernel
theorem dX5_seek_0 : decode cX5_seek 0 = .ok (.aload_n 0, 1) := by decide +kernel
theorem dX5_seek_1 : decode cX5_seek 1 = .ok (.aload_n 1, 1) := by decide +kernel
theorem dX5_seek_2 : decode cX5_seek 2 = .ok (.aload_n 2, 1) := by decide +kernel
theorem dX5_seek_3 : decode cX5_seek 3 = .ok (.invokevirtual 28, 3) := by decide +kernel
theorem dX5_seek_6 : decode cX5_seek 6 = .ok (.aload_n 0, 1) := by decide +kernel
theorem dX5_seek_7 : decode cX5_seek 7 = .ok (.iconst 1, 1) := by decide +kernel
theorem dX5_seek_8 : decode cX5_seek 8 = .ok (.putfield 25, 3) := by decide +kernel
theorem dX5_seek_11 : decode cX5_seek 11 = .ok (.aload_n 0, 1) := by decide +kernel
theorem dX5_seek_12 : decode cX5_seek 12 = .ok (.getfield 22, 3) := by decide +kernel
theorem dX5_seek_15 : decode cX5_seek 15 = .ok (.iconst 0, 1) := by decide +kernel
theorem dX5_seek_16 : decode cX5_seek 16 = .ok (.aload_n 1, 1) := by decide +kernel
theorem dX5_seek_17 : decode cX5_seek 17 = .ok (.getfield 32, 3) := by decide +kernel
theorem dX5_seek_20 : decode cX5_seek 20 = .ok (.getfield 38, 3) := by decide +kernel
theorem dX5_seek_23 : decode cX5_seek 23 = .ok (.iastore, 1) := by decide +kernel
theorem dX5_seek_24 : decode cX5_seek 24 = .ok (.iconst 0, 1) := by decide +kernel
theorem dX5_seek_25 : decode cX5_seek 25 = .ok (.istore_n 3, 1) := by decide +kernel
theorem dX5_seek_26 : decode cX5_seek 26 = .ok (.iconst 0, 1) := by decide +kernel
theorem dX5_seek_27 : decode cX5_seek 27 = .ok (.istore 4, 2) := by decide +kernel
theorem dX5_seek_29 : decode cX5_seek 29 = .ok (.iload 4, 2) := by decide +kernel
theorem dX5_seek_31 : decode cX5_seek 31 = .ok (.bipush 32, 2) := by decide +kernel
theorem dX5_seek_33 : decode cX5_seek 33 = .ok (.if_icmp .ge 41, 3) := by decide +kernel
theorem dX5_seek_36 : decode cX5_seek 36 = .ok (.iload_n 3, 1) := by decide +kernel
theorem dX5_seek_37 : decode cX5_seek 37 = .ok (.ifCond .lt 37, 3) := by decide +kernel
theorem dX5_seek_40 : decode cX5_seek 40 = .ok (.aload_n 0, 1) := by decide +kernel
theorem dX5_seek_41 : decode cX5_seek 41 = .ok (.aload_n 1, 1) := by decide +kernel
theorem dX5_seek_42 : decode cX5_seek 42 = .ok (.getfield 32, 3) := by decide +kernel
theorem dX5_seek_45 : decode cX5_seek 45 = .ok (.aload_n 0, 1) := by decide +kernel
theorem dX5_seek_46 : decode cX5_seek 46 = .ok (.getfield 22, 3) := by decide +kernel
theorem dX5_seek_49 : decode cX5_seek 49 = .ok (.iload_n 3, 1) := by decide +kernel
theorem dX5_seek_50 : decode cX5_seek 50 = .ok (.iaload, 1) := by decide +kernel
theorem dX5_seek_51 : decode cX5_seek 51 = .ok (.invokevirtual 43, 3) := by decide +kernel
theorem dX5_seek_54 : decode cX5_seek 54 = .ok (.aload_n 0, 1) := by decide +kernel
theorem dX5_seek_55 : decode cX5_seek 55 = .ok (.iload_n 3, 1) := by decide +kernel
theorem dX5_seek_56 : decode cX5_seek 56 = .ok (.invokevirtual 47, 3) := by decide +kernel
theorem dX5_seek_59 : decode cX5_seek 59 = .ok (.aload_n 0, 1) := by decide +kernel
theorem dX5_seek_60 : decode cX5_seek 60 = .ok (.aload_n 1, 1) := by decide +kernel
theorem dX5_seek_61 : decode cX5_seek 61 = .ok (.getfield 32, 3) := by decide +kernel
theorem dX5_seek_64 : decode cX5_seek 64 = .ok (.invokevirtual 51, 3) := by decide +kernel
theorem dX5_seek_67 : decode cX5_seek 67 = .ok (.istore_n 3, 1) := by decide +kernel
theorem dX5_seek_68 : decode cX5_seek 68 = .ok (.iinc 4 1, 3) := by decide +kernel
theorem dX5_seek_71 : decode cX5_seek 71 = .ok (.goto (-42), 3) := by decide +kernel
theorem dX5_seek_74 : decode cX5_seek 74 = .ok (.return_, 1) := by decide +kernel
theorem dX5_lay_0 : decode cX5_lay 0 = .ok (.iconst 0, 1) := by decide +kernel
theorem dX5_lay_1 : decode cX5_lay 1 = .ok (.istore_n 3, 1) := by decide +kernel
theorem dX5_lay_2 : decode cX5_lay 2 = .ok (.iload_n 3, 1) := by decide +kernel
theorem dX5_lay_3 : decode cX5_lay 3 = .ok (.bipush 8, 2) := by decide +kernel
theorem dX5_lay_5 : decode cX5_lay 5 = .ok (.if_icmp .ge 42, 3) := by decide +kernel
theorem dX5_lay_8 : decode cX5_lay 8 = .ok (.aload_n 0, 1) := by decide +kernel
theorem dX5_lay_9 : decode cX5_lay 9 = .ok (.getfield 9, 3) := by decide +kernel
theorem dX5_lay_12 : decode cX5_lay 12 = .ok (.iload_n 3, 1) := by decide +kernel
theorem dX5_lay_13 : decode cX5_lay 13 = .ok (.iload_n 3, 1) := by decide +kernel
theorem dX5_lay_14 : decode cX5_lay 14 = .ok (.aload_n 1, 1) := by decide +kernel
theorem dX5_lay_15 : decode cX5_lay 15 = .ok (.getfield 32, 3) := by decide +kernel
theorem dX5_lay_18 : decode cX5_lay 18 = .ok (.getfield 55, 3) := by decide +kernel
theorem dX5_lay_21 : decode cX5_lay 21 = .ok (.if_icmp .ge 18, 3) := by decide +kernel
theorem dX5_lay_24 : decode cX5_lay 24 = .ok (.aload_n 1, 1) := by decide +kernel
theorem dX5_lay_25 : decode cX5_lay 25 = .ok (.getfield 32, 3) := by decide +kernel
theorem dX5_lay_28 : decode cX5_lay 28 = .ok (.iload_n 3, 1) := by decide +kernel
theorem dX5_lay_29 : decode cX5_lay 29 = .ok (.invokevirtual 56, 3) := by decide +kernel
theorem dX5_lay_32 : decode cX5_lay 32 = .ok (.ifCond .eq 7, 3) := by decide +kernel
theorem dX5_lay_35 : decode cX5_lay 35 = .ok (.iconst 1, 1) := by decide +kernel
theorem dX5_lay_36 : decode cX5_lay 36 = .ok (.goto 4, 3) := by decide +kernel
theorem dX5_lay_39 : decode cX5_lay 39 = .ok (.iconst 0, 1) := by decide +kernel
theorem dX5_lay_40 : decode cX5_lay 40 = .ok (.iastore, 1) := by decide +kernel
theorem dX5_lay_41 : decode cX5_lay 41 = .ok (.iinc 3 1, 3) := by decide +kernel
theorem dX5_lay_44 : decode cX5_lay 44 = .ok (.goto (-42), 3) := by decide +kernel
theorem dX5_lay_47 : decode cX5_lay 47 = .ok (.iconst 0, 1) := by decide +kernel
theorem dX5_lay_48 : decode cX5_lay 48 = .ok (.istore_n 3, 1) := by decide +kernel
theorem dX5_lay_49 : decode cX5_lay 49 = .ok (.iload_n 3, 1) := by decide +kernel
theorem dX5_lay_50 : decode cX5_lay 50 = .ok (.bipush 6, 2) := by decide +kernel
theorem dX5_lay_52 : decode cX5_lay 52 = .ok (.if_icmp .ge 29, 3) := by decide +kernel
theorem dX5_lay_55 : decode cX5_lay 55 = .ok (.aload_n 2, 1) := by decide +kernel
theorem dX5_lay_56 : decode cX5_lay 56 = .ok (.iload_n 3, 1) := by decide +kernel
theorem dX5_lay_57 : decode cX5_lay 57 = .ok (.invokevirtual 60, 3) := by decide +kernel
theorem dX5_lay_60 : decode cX5_lay 60 = .ok (.iload_n 3, 1) := by decide +kernel
theorem dX5_lay_61 : decode cX5_lay 61 = .ok (.if_icmp .le 14, 3) := by decide +kernel
theorem dX5_lay_64 : decode cX5_lay 64 = .ok (.aload_n 0, 1) := by decide +kernel
theorem dX5_lay_65 : decode cX5_lay 65 = .ok (.aload_n 1, 1) := by decide +kernel
theorem dX5_lay_66 : decode cX5_lay 66 = .ok (.iload_n 3, 1) := by decide +kernel
theorem dX5_lay_67 : decode cX5_lay 67 = .ok (.aload_n 2, 1) := by decide +kernel
theorem dX5_lay_68 : decode cX5_lay 68 = .ok (.iload_n 3, 1) := by decide +kernel
theorem dX5_lay_69 : decode cX5_lay 69 = .ok (.invokevirtual 60, 3) := by decide +kernel
theorem dX5_lay_72 : decode cX5_lay 72 = .ok (.invokevirtual 66, 3) := by decide +kernel
theorem dX5_lay_75 : decode cX5_lay 75 = .ok (.iinc 3 1, 3) := by decide +kernel
theorem dX5_lay_78 : decode cX5_lay 78 = .ok (.goto (-29), 3) := by decide +kernel
theorem dX5_lay_81 : decode cX5_lay 81 = .ok (.return_, 1) := by decide +kernel
theorem dX5_layWay_0 : decode cX5_layWay 0 = .ok (.iload_n 2, 1) := by decide +kernel
theorem dX5_layWay_1 : decode cX5_layWay 1 = .ok (.istore 4, 2) := by decide +kernel
theorem dX5_layWay_3 : decode cX5_layWay 3 = .ok (.iconst 0, 1) := by decide +kernel
theorem dX5_layWay_4 : decode cX5_layWay 4 = .ok (.istore 5, 2) := by decide +kernel
theorem dX5_layWay_6 : decode cX5_layWay 6 = .ok (.iload 5, 2) := by decide +kernel
theorem dX5_layWay_8 : decode cX5_layWay 8 = .ok (.bipush 6, 2) := by decide +kernel
theorem dX5_layWay_10 : decode cX5_layWay 10 = .ok (.if_icmp .ge 54, 3) := by decide +kernel
theorem dX5_layWay_13 : decode cX5_layWay 13 = .ok (.iload 4, 2) := by decide +kernel
theorem dX5_layWay_15 : decode cX5_layWay 15 = .ok (.iload_n 3, 1) := by decide +kernel
theorem dX5_layWay_16 : decode cX5_layWay 16 = .ok (.if_icmp .eq 48, 3) := by decide +kernel
theorem dX5_layWay_19 : decode cX5_layWay 19 = .ok (.aload_n 1, 1) := by decide +kernel
theorem dX5_layWay_20 : decode cX5_layWay 20 = .ok (.iload 4, 2) := by decide +kernel
theorem dX5_layWay_22 : decode cX5_layWay 22 = .ok (.iload_n 3, 1) := by decide +kernel
theorem dX5_layWay_23 : decode cX5_layWay 23 = .ok (.invokevirtual 70, 3) := by decide +kernel
theorem dX5_layWay_26 : decode cX5_layWay 26 = .ok (.istore 6, 2) := by decide +kernel
theorem dX5_layWay_28 : decode cX5_layWay 28 = .ok (.iload 6, 2) := by decide +kernel
theorem dX5_layWay_30 : decode cX5_layWay 30 = .ok (.ifCond .ge 4, 3) := by decide +kernel
theorem dX5_layWay_33 : decode cX5_layWay 33 = .ok (.return_, 1) := by decide +kernel
theorem dX5_layWay_34 : decode cX5_layWay 34 = .ok (.aload_n 0, 1) := by decide +kernel
theorem dX5_layWay_35 : decode cX5_layWay 35 = .ok (.getfield 9, 3) := by decide +kernel
theorem dX5_layWay_38 : decode cX5_layWay 38 = .ok (.iload 6, 2) := by decide +kernel
theorem dX5_layWay_40 : decode cX5_layWay 40 = .ok (.dup2, 1) := by decide +kernel
theorem dX5_layWay_41 : decode cX5_layWay 41 = .ok (.iaload, 1) := by decide +kernel
theorem dX5_layWay_42 : decode cX5_layWay 42 = .ok (.iconst 1, 1) := by decide +kernel
theorem dX5_layWay_43 : decode cX5_layWay 43 = .ok (.iadd, 1) := by decide +kernel
theorem dX5_layWay_44 : decode cX5_layWay 44 = .ok (.iastore, 1) := by decide +kernel
theorem dX5_layWay_45 : decode cX5_layWay 45 = .ok (.aload_n 1, 1) := by decide +kernel
theorem dX5_layWay_46 : decode cX5_layWay 46 = .ok (.getfield 32, 3) := by decide +kernel
theorem dX5_layWay_49 : decode cX5_layWay 49 = .ok (.iload 6, 2) := by decide +kernel
theorem dX5_layWay_51 : decode cX5_layWay 51 = .ok (.iload 4, 2) := by decide +kernel
theorem dX5_layWay_53 : decode cX5_layWay 53 = .ok (.invokevirtual 74, 3) := by decide +kernel
theorem dX5_layWay_56 : decode cX5_layWay 56 = .ok (.istore 4, 2) := by decide +kernel
theorem dX5_layWay_58 : decode cX5_layWay 58 = .ok (.iinc 5 1, 3) := by decide +kernel
theorem dX5_layWay_61 : decode cX5_layWay 61 = .ok (.goto (-55), 3) := by decide +kernel
theorem dX5_layWay_64 : decode cX5_layWay 64 = .ok (.return_, 1) := by decide +kernel
theorem dX5_leastLeft_0 : decode cX5_leastLeft 0 = .ok (.iconst 0, 1) := by decide +kernel
theorem dX5_leastLeft_1 : decode cX5_leastLeft 1 = .ok (.istore_n 3, 1) := by decide +kernel
theorem dX5_leastLeft_2 : decode cX5_leastLeft 2 = .ok (.iload_n 3, 1) := by decide +kernel
theorem dX5_leastLeft_3 : decode cX5_leastLeft 3 = .ok (.aload_n 1, 1) := by decide +kernel
theorem dX5_leastLeft_4 : decode cX5_leastLeft 4 = .ok (.getfield 55, 3) := by decide +kernel
theorem dX5_leastLeft_7 : decode cX5_leastLeft 7 = .ok (.if_icmp .ge 29, 3) := by decide +kernel
theorem dX5_leastLeft_10 : decode cX5_leastLeft 10 = .ok (.aload_n 0, 1) := by decide +kernel
theorem dX5_leastLeft_11 : decode cX5_leastLeft 11 = .ok (.getfield 9, 3) := by decide +kernel
theorem dX5_leastLeft_14 : decode cX5_leastLeft 14 = .ok (.iload_n 3, 1) := by decide +kernel
theorem dX5_leastLeft_15 : decode cX5_leastLeft 15 = .ok (.iaload, 1) := by decide +kernel
theorem dX5_leastLeft_16 : decode cX5_leastLeft 16 = .ok (.ifCond .le 14, 3) := by decide +kernel
theorem dX5_leastLeft_19 : decode cX5_leastLeft 19 = .ok (.aload_n 1, 1) := by decide +kernel
theorem dX5_leastLeft_20 : decode cX5_leastLeft 20 = .ok (.iload_n 3, 1) := by decide +kernel
theorem dX5_leastLeft_21 : decode cX5_leastLeft 21 = .ok (.iload_n 2, 1) := by decide +kernel
theorem dX5_leastLeft_22 : decode cX5_leastLeft 22 = .ok (.invokevirtual 77, 3) := by decide +kernel
theorem dX5_leastLeft_25 : decode cX5_leastLeft 25 = .ok (.ifCond .eq 5, 3) := by decide +kernel
theorem dX5_leastLeft_28 : decode cX5_leastLeft 28 = .ok (.iload_n 3, 1) := by decide +kernel
theorem dX5_leastLeft_29 : decode cX5_leastLeft 29 = .ok (.ireturn, 1) := by decide +kernel
theorem dX5_leastLeft_30 : decode cX5_leastLeft 30 = .ok (.iinc 3 1, 3) := by decide +kernel
theorem dX5_leastLeft_33 : decode cX5_leastLeft 33 = .ok (.goto (-31), 3) := by decide +kernel
theorem dX5_leastLeft_36 : decode cX5_leastLeft 36 = .ok (.bipush (-9), 2) := by decide +kernel
theorem dX5_leastLeft_38 : decode cX5_leastLeft 38 = .ok (.ireturn, 1) := by decide +kernel
theorem dX5_walk_0 : decode cX5_walk 0 = .ok (.iload_n 2, 1) := by decide +kernel
theorem dX5_walk_1 : decode cX5_walk 1 = .ok (.istore_n 3, 1) := by decide +kernel
theorem dX5_walk_2 : decode cX5_walk 2 = .ok (.aload_n 0, 1) := by decide +kernel
theorem dX5_walk_3 : decode cX5_walk 3 = .ok (.aload_n 1, 1) := by decide +kernel
theorem dX5_walk_4 : decode cX5_walk 4 = .ok (.iload_n 3, 1) := by decide +kernel
theorem dX5_walk_5 : decode cX5_walk 5 = .ok (.invokevirtual 81, 3) := by decide +kernel
theorem dX5_walk_8 : decode cX5_walk 8 = .ok (.istore 4, 2) := by decide +kernel
theorem dX5_walk_10 : decode cX5_walk 10 = .ok (.aload_n 0, 1) := by decide +kernel
theorem dX5_walk_11 : decode cX5_walk 11 = .ok (.iconst 0, 1) := by decide +kernel
theorem dX5_walk_12 : decode cX5_walk 12 = .ok (.putfield 18, 3) := by decide +kernel
theorem dX5_walk_15 : decode cX5_walk 15 = .ok (.iload 4, 2) := by decide +kernel
theorem dX5_walk_17 : decode cX5_walk 17 = .ok (.ifCond .lt 62, 3) := by decide +kernel
theorem dX5_walk_20 : decode cX5_walk 20 = .ok (.aload_n 0, 1) := by decide +kernel
theorem dX5_walk_21 : decode cX5_walk 21 = .ok (.getfield 18, 3) := by decide +kernel
theorem dX5_walk_24 : decode cX5_walk 24 = .ok (.bipush 32, 2) := by decide +kernel
theorem dX5_walk_26 : decode cX5_walk 26 = .ok (.if_icmp .ge 53, 3) := by decide +kernel
theorem dX5_walk_29 : decode cX5_walk 29 = .ok (.aload_n 0, 1) := by decide +kernel
theorem dX5_walk_30 : decode cX5_walk 30 = .ok (.getfield 9, 3) := by decide +kernel
theorem dX5_walk_33 : decode cX5_walk 33 = .ok (.iload 4, 2) := by decide +kernel
theorem dX5_walk_35 : decode cX5_walk 35 = .ok (.dup2, 1) := by decide +kernel
theorem dX5_walk_36 : decode cX5_walk 36 = .ok (.iaload, 1) := by decide +kernel
theorem dX5_walk_37 : decode cX5_walk 37 = .ok (.iconst 1, 1) := by decide +kernel
theorem dX5_walk_38 : decode cX5_walk 38 = .ok (.isub, 1) := by decide +kernel
theorem dX5_walk_39 : decode cX5_walk 39 = .ok (.iastore, 1) := by decide +kernel
theorem dX5_walk_40 : decode cX5_walk 40 = .ok (.aload_n 1, 1) := by decide +kernel
theorem dX5_walk_41 : decode cX5_walk 41 = .ok (.iload 4, 2) := by decide +kernel
theorem dX5_walk_43 : decode cX5_walk 43 = .ok (.iload_n 3, 1) := by decide +kernel
theorem dX5_walk_44 : decode cX5_walk 44 = .ok (.invokevirtual 74, 3) := by decide +kernel
theorem dX5_walk_47 : decode cX5_walk 47 = .ok (.istore_n 3, 1) := by decide +kernel
theorem dX5_walk_48 : decode cX5_walk 48 = .ok (.aload_n 0, 1) := by decide +kernel
theorem dX5_walk_49 : decode cX5_walk 49 = .ok (.getfield 15, 3) := by decide +kernel
theorem dX5_walk_52 : decode cX5_walk 52 = .ok (.aload_n 0, 1) := by decide +kernel
theorem dX5_walk_53 : decode cX5_walk 53 = .ok (.getfield 18, 3) := by decide +kernel
theorem dX5_walk_56 : decode cX5_walk 56 = .ok (.iload_n 3, 1) := by decide +kernel
theorem dX5_walk_57 : decode cX5_walk 57 = .ok (.iastore, 1) := by decide +kernel
theorem dX5_walk_58 : decode cX5_walk 58 = .ok (.aload_n 0, 1) := by decide +kernel
theorem dX5_walk_59 : decode cX5_walk 59 = .ok (.dup, 1) := by decide +kernel
theorem dX5_walk_60 : decode cX5_walk 60 = .ok (.getfield 18, 3) := by decide +kernel
theorem dX5_walk_63 : decode cX5_walk 63 = .ok (.iconst 1, 1) := by decide +kernel
theorem dX5_walk_64 : decode cX5_walk 64 = .ok (.iadd, 1) := by decide +kernel
theorem dX5_walk_65 : decode cX5_walk 65 = .ok (.putfield 18, 3) := by decide +kernel
theorem dX5_walk_68 : decode cX5_walk 68 = .ok (.aload_n 0, 1) := by decide +kernel
theorem dX5_walk_69 : decode cX5_walk 69 = .ok (.aload_n 1, 1) := by decide +kernel
theorem dX5_walk_70 : decode cX5_walk 70 = .ok (.iload_n 3, 1) := by decide +kernel
theorem dX5_walk_71 : decode cX5_walk 71 = .ok (.invokevirtual 81, 3) := by decide +kernel
theorem dX5_walk_74 : decode cX5_walk 74 = .ok (.istore 4, 2) := by decide +kernel
theorem dX5_walk_76 : decode cX5_walk 76 = .ok (.goto (-61), 3) := by decide +kernel
theorem dX5_walk_79 : decode cX5_walk 79 = .ok (.return_, 1) := by decide +kernel
theorem dX5_putIn_0 : decode cX5_putIn 0 = .ok (.aload_n 0, 1) := by decide +kernel
theorem dX5_putIn_1 : decode cX5_putIn 1 = .ok (.getfield 25, 3) := by decide +kernel
theorem dX5_putIn_4 : decode cX5_putIn 4 = .ok (.aload_n 0, 1) := by decide +kernel
theorem dX5_putIn_5 : decode cX5_putIn 5 = .ok (.getfield 18, 3) := by decide +kernel
theorem dX5_putIn_8 : decode cX5_putIn 8 = .ok (.iadd, 1) := by decide +kernel
theorem dX5_putIn_9 : decode cX5_putIn 9 = .ok (.bipush 32, 2) := by decide +kernel
theorem dX5_putIn_11 : decode cX5_putIn 11 = .ok (.if_icmp .le 4, 3) := by decide +kernel
theorem dX5_putIn_14 : decode cX5_putIn 14 = .ok (.return_, 1) := by decide +kernel
theorem dX5_putIn_15 : decode cX5_putIn 15 = .ok (.aload_n 0, 1) := by decide +kernel
theorem dX5_putIn_16 : decode cX5_putIn 16 = .ok (.getfield 25, 3) := by decide +kernel
theorem dX5_putIn_19 : decode cX5_putIn 19 = .ok (.iload_n 1, 1) := by decide +kernel
theorem dX5_putIn_20 : decode cX5_putIn 20 = .ok (.isub, 1) := by decide +kernel
theorem dX5_putIn_21 : decode cX5_putIn 21 = .ok (.iconst 1, 1) := by decide +kernel
theorem dX5_putIn_22 : decode cX5_putIn 22 = .ok (.isub, 1) := by decide +kernel
theorem dX5_putIn_23 : decode cX5_putIn 23 = .ok (.istore_n 2, 1) := by decide +kernel
theorem dX5_putIn_24 : decode cX5_putIn 24 = .ok (.aload_n 0, 1) := by decide +kernel
theorem dX5_putIn_25 : decode cX5_putIn 25 = .ok (.getfield 22, 3) := by decide +kernel
theorem dX5_putIn_28 : decode cX5_putIn 28 = .ok (.iload_n 1, 1) := by decide +kernel
theorem dX5_putIn_29 : decode cX5_putIn 29 = .ok (.iconst 1, 1) := by decide +kernel
theorem dX5_putIn_30 : decode cX5_putIn 30 = .ok (.iadd, 1) := by decide +kernel
theorem dX5_putIn_31 : decode cX5_putIn 31 = .ok (.aload_n 0, 1) := by decide +kernel
theorem dX5_putIn_32 : decode cX5_putIn 32 = .ok (.getfield 22, 3) := by decide +kernel
theorem dX5_putIn_35 : decode cX5_putIn 35 = .ok (.iload_n 1, 1) := by decide +kernel
theorem dX5_putIn_36 : decode cX5_putIn 36 = .ok (.iconst 1, 1) := by decide +kernel
theorem dX5_putIn_37 : decode cX5_putIn 37 = .ok (.iadd, 1) := by decide +kernel
theorem dX5_putIn_38 : decode cX5_putIn 38 = .ok (.aload_n 0, 1) := by decide +kernel
theorem dX5_putIn_39 : decode cX5_putIn 39 = .ok (.getfield 18, 3) := by decide +kernel
theorem dX5_putIn_42 : decode cX5_putIn 42 = .ok (.iadd, 1) := by decide +kernel
theorem dX5_putIn_43 : decode cX5_putIn 43 = .ok (.iload_n 2, 1) := by decide +kernel
theorem dX5_putIn_44 : decode cX5_putIn 44 = .ok (.invokestatic 85, 3) := by decide +kernel
theorem dX5_putIn_47 : decode cX5_putIn 47 = .ok (.aload_n 0, 1) := by decide +kernel
theorem dX5_putIn_48 : decode cX5_putIn 48 = .ok (.getfield 15, 3) := by decide +kernel
theorem dX5_putIn_51 : decode cX5_putIn 51 = .ok (.iconst 0, 1) := by decide +kernel
theorem dX5_putIn_52 : decode cX5_putIn 52 = .ok (.aload_n 0, 1) := by decide +kernel
theorem dX5_putIn_53 : decode cX5_putIn 53 = .ok (.getfield 22, 3) := by decide +kernel
theorem dX5_putIn_56 : decode cX5_putIn 56 = .ok (.iload_n 1, 1) := by decide +kernel
theorem dX5_putIn_57 : decode cX5_putIn 57 = .ok (.iconst 1, 1) := by decide +kernel
theorem dX5_putIn_58 : decode cX5_putIn 58 = .ok (.iadd, 1) := by decide +kernel
theorem dX5_putIn_59 : decode cX5_putIn 59 = .ok (.aload_n 0, 1) := by decide +kernel
theorem dX5_putIn_60 : decode cX5_putIn 60 = .ok (.getfield 18, 3) := by decide +kernel
theorem dX5_putIn_63 : decode cX5_putIn 63 = .ok (.invokestatic 85, 3) := by decide +kernel
theorem dX5_putIn_66 : decode cX5_putIn 66 = .ok (.aload_n 0, 1) := by decide +kernel
theorem dX5_putIn_67 : decode cX5_putIn 67 = .ok (.dup, 1) := by decide +kernel
theorem dX5_putIn_68 : decode cX5_putIn 68 = .ok (.getfield 25, 3) := by decide +kernel
theorem dX5_putIn_71 : decode cX5_putIn 71 = .ok (.aload_n 0, 1) := by decide +kernel
theorem dX5_putIn_72 : decode cX5_putIn 72 = .ok (.getfield 18, 3) := by decide +kernel
theorem dX5_putIn_75 : decode cX5_putIn 75 = .ok (.iadd, 1) := by decide +kernel
theorem dX5_putIn_76 : decode cX5_putIn 76 = .ok (.putfield 25, 3) := by decide +kernel
theorem dX5_putIn_79 : decode cX5_putIn 79 = .ok (.return_, 1) := by decide +kernel
theorem dX5_firstLeft_0 : decode cX5_firstLeft 0 = .ok (.iconst 0, 1) := by decide +kernel
theorem dX5_firstLeft_1 : decode cX5_firstLeft 1 = .ok (.istore_n 2, 1) := by decide +kernel
theorem dX5_firstLeft_2 : decode cX5_firstLeft 2 = .ok (.iload_n 2, 1) := by decide +kernel
theorem dX5_firstLeft_3 : decode cX5_firstLeft 3 = .ok (.aload_n 0, 1) := by decide +kernel
theorem dX5_firstLeft_4 : decode cX5_firstLeft 4 = .ok (.getfield 25, 3) := by decide +kernel
theorem dX5_firstLeft_7 : decode cX5_firstLeft 7 = .ok (.if_icmp .ge 25, 3) := by decide +kernel
theorem dX5_firstLeft_10 : decode cX5_firstLeft 10 = .ok (.aload_n 0, 1) := by decide +kernel
theorem dX5_firstLeft_11 : decode cX5_firstLeft 11 = .ok (.aload_n 1, 1) := by decide +kernel
theorem dX5_firstLeft_12 : decode cX5_firstLeft 12 = .ok (.aload_n 0, 1) := by decide +kernel
theorem dX5_firstLeft_13 : decode cX5_firstLeft 13 = .ok (.getfield 22, 3) := by decide +kernel
theorem dX5_firstLeft_16 : decode cX5_firstLeft 16 = .ok (.iload_n 2, 1) := by decide +kernel
theorem dX5_firstLeft_17 : decode cX5_firstLeft 17 = .ok (.iaload, 1) := by decide +kernel
theorem dX5_firstLeft_18 : decode cX5_firstLeft 18 = .ok (.invokevirtual 81, 3) := by decide +kernel
theorem dX5_firstLeft_21 : decode cX5_firstLeft 21 = .ok (.ifCond .lt 5, 3) := by decide +kernel
theorem dX5_firstLeft_24 : decode cX5_firstLeft 24 = .ok (.iload_n 2, 1) := by decide +kernel
theorem dX5_firstLeft_25 : decode cX5_firstLeft 25 = .ok (.ireturn, 1) := by decide +kernel
theorem dX5_firstLeft_26 : decode cX5_firstLeft 26 = .ok (.iinc 2 1, 3) := by decide +kernel
theorem dX5_firstLeft_29 : decode cX5_firstLeft 29 = .ok (.goto (-27), 3) := by decide +kernel
theorem dX5_firstLeft_32 : decode cX5_firstLeft 32 = .ok (.bipush (-9), 2) := by decide +kernel
theorem dX5_firstLeft_34 : decode cX5_firstLeft 34 = .ok (.ireturn, 1) := by decide +kernel
theorem dX6_init_0 : decode cX6_init 0 = .ok (.aload_n 0, 1) := by decide +kernel
theorem dX6_init_1 : decode cX6_init 1 = .ok (.invokespecial 3, 3) := by decide +kernel
theorem dX6_init_4 : decode cX6_init 4 = .ok (.aload_n 0, 1) := by decide +kernel
theorem dX6_init_5 : decode cX6_init 5 = .ok (.new 9, 3) := by decide +kernel
theorem dX6_init_8 : decode cX6_init 8 = .ok (.dup, 1) := by decide +kernel
theorem dX6_init_9 : decode cX6_init 9 = .ok (.invokespecial 11, 3) := by decide +kernel
theorem dX6_init_12 : decode cX6_init 12 = .ok (.putfield 12, 3) := by decide +kernel
theorem dX6_init_15 : decode cX6_init 15 = .ok (.aload_n 0, 1) := by decide +kernel
theorem dX6_init_16 : decode cX6_init 16 = .ok (.sipush 1536, 3) := by decide +kernel
theorem dX6_init_19 : decode cX6_init 19 = .ok (.newarray .int, 2) := by decide +kernel
theorem dX6_init_21 : decode cX6_init 21 = .ok (.putfield 18, 3) := by decide +kernel
theorem dX6_init_24 : decode cX6_init 24 = .ok (.aload_n 0, 1) := by decide +kernel
theorem dX6_init_25 : decode cX6_init 25 = .ok (.bipush 6, 2) := by decide +kernel
theorem dX6_init_27 : decode cX6_init 27 = .ok (.newarray .int, 2) := by decide +kernel
theorem dX6_init_29 : decode cX6_init 29 = .ok (.putfield 22, 3) := by decide +kernel
theorem dX6_init_32 : decode cX6_init 32 = .ok (.aload_n 0, 1) := by decide +kernel
theorem dX6_init_33 : decode cX6_init 33 = .ok (.iconst 0, 1) := by decide +kernel
theorem dX6_init_34 : decode cX6_init 34 = .ok (.putfield 25, 3) := by decide +kernel
theorem dX6_init_37 : decode cX6_init 37 = .ok (.aload_n 0, 1) := by decide +kernel
theorem dX6_init_38 : decode cX6_init 38 = .ok (.iconst 0, 1) := by decide +kernel
theorem dX6_init_39 : decode cX6_init 39 = .ok (.putfield 29, 3) := by decide +kernel
theorem dX6_init_42 : decode cX6_init 42 = .ok (.aload_n 0, 1) := by decide +kernel
theorem dX6_init_43 : decode cX6_init 43 = .ok (.iconst 0, 1) := by decide +kernel
theorem dX6_init_44 : decode cX6_init 44 = .ok (.putfield 33, 3) := by decide +kernel
theorem dX6_init_47 : decode cX6_init 47 = .ok (.aload_n 0, 1) := by decide +kernel
theorem dX6_init_48 : decode cX6_init 48 = .ok (.bipush 64, 2) := by decide +kernel
theorem dX6_init_50 : decode cX6_init 50 = .ok (.newarray .int, 2) := by decide +kernel
theorem dX6_init_52 : decode cX6_init 52 = .ok (.putfield 36, 3) := by decide +kernel
theorem dX6_init_55 : decode cX6_init 55 = .ok (.aload_n 0, 1) := by decide +kernel
theorem dX6_init_56 : decode cX6_init 56 = .ok (.bipush 65, 2) := by decide +kernel
theorem dX6_init_58 : decode cX6_init 58 = .ok (.newarray .int, 2) := by decide +kernel
theorem dX6_init_60 : decode cX6_init 60 = .ok (.putfield 39, 3) := by decide +kernel
theorem dX6_init_63 : decode cX6_init 63 = .ok (.aload_n 0, 1) := by decide +kernel
theorem dX6_init_64 : decode cX6_init 64 = .ok (.bipush 64, 2) := by decide +kernel
theorem dX6_init_66 : decode cX6_init 66 = .ok (.newarray .int, 2) := by decide +kernel
theorem dX6_init_68 : decode cX6_init 68 = .ok (.putfield 42, 3) := by decide +kernel
theorem dX6_init_71 : decode cX6_init 71 = .ok (.aload_n 0, 1) := by decide +kernel
theorem dX6_init_72 : decode cX6_init 72 = .ok (.bipush 64, 2) := by decide +kernel
theorem dX6_init_74 : decode cX6_init 74 = .ok (.newarray .boolean, 2) := by decide +kernel
theorem dX6_init_76 : decode cX6_init 76 = .ok (.putfield 45, 3) := by decide +kernel
theorem dX6_init_79 : decode cX6_init 79 = .ok (.return_, 1) := by decide +kernel
theorem dX6_seek_0 : decode cX6_seek 0 = .ok (.aload_n 0, 1) := by decide +kernel
theorem dX6_seek_1 : decode cX6_seek 1 = .ok (.getfield 25, 3) := by decide +kernel
theorem dX6_seek_4 : decode cX6_seek 4 = .ok (.ifCond .eq 18, 3) := by decide +kernel
theorem dX6_seek_7 : decode cX6_seek 7 = .ok (.aload_n 0, 1) := by decide +kernel
theorem dX6_seek_8 : decode cX6_seek 8 = .ok (.getfield 12, 3) := by decide +kernel
theorem dX6_seek_11 : decode cX6_seek 11 = .ok (.getfield 49, 3) := by decide +kernel
theorem dX6_seek_14 : decode cX6_seek 14 = .ok (.aload_n 1, 1) := by decide +kernel
theorem dX6_seek_15 : decode cX6_seek 15 = .ok (.invokevirtual 53, 3) := by decide +kernel
theorem dX6_seek_18 : decode cX6_seek 18 = .ok (.ifCond .eq 4, 3) := by decide +kernel
theorem dX6_seek_21 : decode cX6_seek 21 = .ok (.return_, 1) := by decide +kernel
theorem dX6_seek_22 : decode cX6_seek 22 = .ok (.aload_n 0, 1) := by decide +kernel
theorem dX6_seek_23 : decode cX6_seek 23 = .ok (.getfield 12, 3) := by decide +kernel
theorem dX6_seek_26 : decode cX6_seek 26 = .ok (.aload_n 1, 1) := by decide +kernel
theorem dX6_seek_27 : decode cX6_seek 27 = .ok (.iconst 0, 1) := by decide +kernel
theorem dX6_seek_28 : decode cX6_seek 28 = .ok (.invokevirtual 59, 3) := by decide +kernel
theorem dX6_seek_31 : decode cX6_seek 31 = .ok (.aload_n 0, 1) := by decide +kernel
theorem dX6_seek_32 : decode cX6_seek 32 = .ok (.invokevirtual 63, 3) := by decide +kernel
theorem dX6_seek_35 : decode cX6_seek 35 = .ok (.aload_n 0, 1) := by decide +kernel
theorem dX6_seek_36 : decode cX6_seek 36 = .ok (.invokevirtual 66, 3) := by decide +kernel
theorem dX6_seek_39 : decode cX6_seek 39 = .ok (.aload_n 0, 1) := by decide +kernel
theorem dX6_seek_40 : decode cX6_seek 40 = .ok (.iconst 1, 1) := by decide +kernel
theorem dX6_seek_41 : decode cX6_seek 41 = .ok (.putfield 25, 3) := by decide +kernel
theorem dX6_seek_44 : decode cX6_seek 44 = .ok (.return_, 1) := by decide +kernel
theorem dX6_isFound_0 : decode cX6_isFound 0 = .ok (.aload_n 0, 1) := by decide +kernel
theorem dX6_isFound_1 : decode cX6_isFound 1 = .ok (.invokevirtual 69, 3) := by decide +kernel
theorem dX6_isFound_4 : decode cX6_isFound 4 = .ok (.ldc 73, 2) := by decide +kernel
theorem dX6_isFound_6 : decode cX6_isFound 6 = .ok (.if_icmp .ge 7, 3) := by decide +kernel
theorem dX6_isFound_9 : decode cX6_isFound 9 = .ok (.iconst 1, 1) := by decide +kernel
theorem dX6_isFound_10 : decode cX6_isFound 10 = .ok (.goto 4, 3) := by decide +kernel
theorem dX6_isFound_13 : decode cX6_isFound 13 = .ok (.iconst 0, 1) := by decide +kernel
theorem dX6_isFound_14 : decode cX6_isFound 14 = .ok (.ireturn, 1) := by decide +kernel
theorem dX6_cost_0 : decode cX6_cost 0 = .ok (.aload_n 0, 1) := by decide +kernel
theorem dX6_cost_1 : decode cX6_cost 1 = .ok (.getfield 18, 3) := by decide +kernel
theorem dX6_cost_4 : decode cX6_cost 4 = .ok (.aload_n 0, 1) := by decide +kernel
theorem dX6_cost_5 : decode cX6_cost 5 = .ok (.getfield 29, 3) := by decide +kernel
theorem dX6_cost_8 : decode cX6_cost 8 = .ok (.bipush 6, 2) := by decide +kernel
theorem dX6_cost_10 : decode cX6_cost 10 = .ok (.imul, 1) := by decide +kernel
theorem dX6_cost_11 : decode cX6_cost 11 = .ok (.aload_n 0, 1) := by decide +kernel
theorem dX6_cost_12 : decode cX6_cost 12 = .ok (.getfield 12, 3) := by decide +kernel
theorem dX6_cost_15 : decode cX6_cost 15 = .ok (.getfield 49, 3) := by decide +kernel
theorem dX6_cost_18 : decode cX6_cost 18 = .ok (.getfield 74, 3) := by decide +kernel
theorem dX6_cost_21 : decode cX6_cost 21 = .ok (.iadd, 1) := by decide +kernel
theorem dX6_cost_22 : decode cX6_cost 22 = .ok (.iaload, 1) := by decide +kernel
theorem dX6_cost_23 : decode cX6_cost 23 = .ok (.ireturn, 1) := by decide +kernel
theorem dX6_costOfSet_0 : decode cX6_costOfSet 0 = .ok (.aload_n 0, 1) := by decide +kernel
theorem dX6_costOfSet_1 : decode cX6_costOfSet 1 = .ok (.getfield 18, 3) := by decide +kernel
theorem dX6_costOfSet_4 : decode cX6_costOfSet 4 = .ok (.iload_n 1, 1) := by decide +kernel
theorem dX6_costOfSet_5 : decode cX6_costOfSet 5 = .ok (.bipush 6, 2) := by decide +kernel
theorem dX6_costOfSet_7 : decode cX6_costOfSet 7 = .ok (.imul, 1) := by decide +kernel
theorem dX6_costOfSet_8 : decode cX6_costOfSet 8 = .ok (.aload_n 0, 1) := by decide +kernel
theorem dX6_costOfSet_9 : decode cX6_costOfSet 9 = .ok (.getfield 12, 3) := by decide +kernel
theorem dX6_costOfSet_12 : decode cX6_costOfSet 12 = .ok (.getfield 49, 3) := by decide +kernel
theorem dX6_costOfSet_15 : decode cX6_costOfSet 15 = .ok (.getfield 74, 3) := by decide +kernel
theorem dX6_costOfSet_18 : decode cX6_costOfSet 18 = .ok (.iadd, 1) := by decide +kernel
theorem dX6_costOfSet_19 : decode cX6_costOfSet 19 = .ok (.iaload, 1) := by decide +kernel
theorem dX6_costOfSet_20 : decode cX6_costOfSet 20 = .ok (.ireturn, 1) := by decide +kernel
theorem dX6_cornersToTell_0 : decode cX6_cornersToTell 0 = .ok (.aload_n 0, 1) := by decide +kernel
theorem dX6_cornersToTell_1 : decode cX6_cornersToTell 1 = .ok (.invokevirtual 77, 3) := by decide +kernel
theorem dX6_cornersToTell_4 : decode cX6_cornersToTell 4 = .ok (.ifCond .eq 12, 3) := by decide +kernel
theorem dX6_cornersToTell_7 : decode cX6_cornersToTell 7 = .ok (.aload_n 0, 1) := by decide +kernel
theorem dX6_cornersToTell_8 : decode cX6_cornersToTell 8 = .ok (.getfield 33, 3) := by decide +kernel
theorem dX6_cornersToTell_11 : decode cX6_cornersToTell 11 = .ok (.iconst 1, 1) := by decide +kernel
theorem dX6_cornersToTell_12 : decode cX6_cornersToTell 12 = .ok (.iadd, 1) := by decide +kernel
theorem dX6_cornersToTell_13 : decode cX6_cornersToTell 13 = .ok (.goto 4, 3) := by decide +kernel
theorem dX6_cornersToTell_16 : decode cX6_cornersToTell 16 = .ok (.iconst 0, 1) := by decide +kernel
theorem dX6_cornersToTell_17 : decode cX6_cornersToTell 17 = .ok (.ireturn, 1) := by decide +kernel
theorem dX6_stepsAgain_0 : decode cX6_stepsAgain 0 = .ok (.iconst 0, 1) := by decide +kernel
theorem dX6_stepsAgain_1 : decode cX6_stepsAgain 1 = .ok (.istore_n 1, 1) := by decide +kernel
theorem dX6_stepsAgain_2 : decode cX6_stepsAgain 2 = .ok (.iconst 0, 1) := by decide +kernel
theorem dX6_stepsAgain_3 : decode cX6_stepsAgain 3 = .ok (.istore_n 2, 1) := by decide +kernel
theorem dX6_stepsAgain_4 : decode cX6_stepsAgain 4 = .ok (.iload_n 2, 1) := by decide +kernel
theorem dX6_stepsAgain_5 : decode cX6_stepsAgain 5 = .ok (.aload_n 0, 1) := by decide +kernel
theorem dX6_stepsAgain_6 : decode cX6_stepsAgain 6 = .ok (.getfield 33, 3) := by decide +kernel
theorem dX6_stepsAgain_9 : decode cX6_stepsAgain 9 = .ok (.if_icmp .ge 26, 3) := by decide +kernel
theorem dX6_stepsAgain_12 : decode cX6_stepsAgain 12 = .ok (.iload_n 1, 1) := by decide +kernel
theorem dX6_stepsAgain_13 : decode cX6_stepsAgain 13 = .ok (.aload_n 0, 1) := by decide +kernel
theorem dX6_stepsAgain_14 : decode cX6_stepsAgain 14 = .ok (.getfield 45, 3) := by decide +kernel
theorem dX6_stepsAgain_17 : decode cX6_stepsAgain 17 = .ok (.iload_n 2, 1) := by decide +kernel
theorem dX6_stepsAgain_18 : decode cX6_stepsAgain 18 = .ok (.baload, 1) := by decide +kernel
theorem dX6_stepsAgain_19 : decode cX6_stepsAgain 19 = .ok (.ifCond .eq 7, 3) := by decide +kernel
theorem dX6_stepsAgain_22 : decode cX6_stepsAgain 22 = .ok (.iconst 1, 1) := by decide +kernel
theorem dX6_stepsAgain_23 : decode cX6_stepsAgain 23 = .ok (.goto 4, 3) := by decide +kernel
theorem dX6_stepsAgain_26 : decode cX6_stepsAgain 26 = .ok (.iconst 0, 1) := by decide +kernel
theorem dX6_stepsAgain_27 : decode cX6_stepsAgain 27 = .ok (.iadd, 1) := by decide +kernel
theorem dX6_stepsAgain_28 : decode cX6_stepsAgain 28 = .ok (.istore_n 1, 1) := by decide +kernel
theorem dX6_stepsAgain_29 : decode cX6_stepsAgain 29 = .ok (.iinc 2 1, 3) := by decide +kernel
theorem dX6_stepsAgain_32 : decode cX6_stepsAgain 32 = .ok (.goto (-28), 3) := by decide +kernel
theorem dX6_stepsAgain_35 : decode cX6_stepsAgain 35 = .ok (.iload_n 1, 1) := by decide +kernel
theorem dX6_stepsAgain_36 : decode cX6_stepsAgain 36 = .ok (.ireturn, 1) := by decide +kernel
theorem dX6_costAgain_0 : decode cX6_costAgain 0 = .ok (.iconst 0, 1) := by decide +kernel
theorem dX6_costAgain_1 : decode cX6_costAgain 1 = .ok (.istore_n 1, 1) := by decide +kernel
theorem dX6_costAgain_2 : decode cX6_costAgain 2 = .ok (.iconst 0, 1) := by decide +kernel
theorem dX6_costAgain_3 : decode cX6_costAgain 3 = .ok (.istore_n 2, 1) := by decide +kernel
theorem dX6_costAgain_4 : decode cX6_costAgain 4 = .ok (.iload_n 2, 1) := by decide +kernel
theorem dX6_costAgain_5 : decode cX6_costAgain 5 = .ok (.aload_n 0, 1) := by decide +kernel
theorem dX6_costAgain_6 : decode cX6_costAgain 6 = .ok (.getfield 33, 3) := by decide +kernel
theorem dX6_costAgain_9 : decode cX6_costAgain 9 = .ok (.if_icmp .ge 31, 3) := by decide +kernel
theorem dX6_costAgain_12 : decode cX6_costAgain 12 = .ok (.iload_n 1, 1) := by decide +kernel
theorem dX6_costAgain_13 : decode cX6_costAgain 13 = .ok (.aload_n 0, 1) := by decide +kernel
theorem dX6_costAgain_14 : decode cX6_costAgain 14 = .ok (.getfield 45, 3) := by decide +kernel
theorem dX6_costAgain_17 : decode cX6_costAgain 17 = .ok (.iload_n 2, 1) := by decide +kernel
theorem dX6_costAgain_18 : decode cX6_costAgain 18 = .ok (.baload, 1) := by decide +kernel
theorem dX6_costAgain_19 : decode cX6_costAgain 19 = .ok (.ifCond .eq 12, 3) := by decide +kernel
theorem dX6_costAgain_22 : decode cX6_costAgain 22 = .ok (.aload_n 0, 1) := by decide +kernel
theorem dX6_costAgain_23 : decode cX6_costAgain 23 = .ok (.getfield 42, 3) := by decide +kernel
theorem dX6_costAgain_26 : decode cX6_costAgain 26 = .ok (.iload_n 2, 1) := by decide +kernel
theorem dX6_costAgain_27 : decode cX6_costAgain 27 = .ok (.iaload, 1) := by decide +kernel
theorem dX6_costAgain_28 : decode cX6_costAgain 28 = .ok (.goto 4, 3) := by decide +kernel
theorem dX6_costAgain_31 : decode cX6_costAgain 31 = .ok (.iconst 0, 1) := by decide +kernel
theorem dX6_costAgain_32 : decode cX6_costAgain 32 = .ok (.iadd, 1) := by decide +kernel
theorem dX6_costAgain_33 : decode cX6_costAgain 33 = .ok (.istore_n 1, 1) := by decide +kernel
theorem dX6_costAgain_34 : decode cX6_costAgain 34 = .ok (.iinc 2 1, 3) := by decide +kernel
theorem dX6_costAgain_37 : decode cX6_costAgain 37 = .ok (.goto (-33), 3) := by decide +kernel
theorem dX6_costAgain_40 : decode cX6_costAgain 40 = .ok (.iload_n 1, 1) := by decide +kernel
theorem dX6_costAgain_41 : decode cX6_costAgain 41 = .ok (.ireturn, 1) := by decide +kernel
theorem dX6_looseEnd_0 : decode cX6_looseEnd 0 = .ok (.aload_n 0, 1) := by decide +kernel
theorem dX6_looseEnd_1 : decode cX6_looseEnd 1 = .ok (.iconst 0, 1) := by decide +kernel
theorem dX6_looseEnd_2 : decode cX6_looseEnd 2 = .ok (.putfield 25, 3) := by decide +kernel
theorem dX6_looseEnd_5 : decode cX6_looseEnd 5 = .ok (.aload_n 0, 1) := by decide +kernel
theorem dX6_looseEnd_6 : decode cX6_looseEnd 6 = .ok (.getfield 12, 3) := by decide +kernel
theorem dX6_looseEnd_9 : decode cX6_looseEnd 9 = .ok (.aload_n 1, 1) := by decide +kernel
theorem dX6_looseEnd_10 : decode cX6_looseEnd 10 = .ok (.iconst 1, 1) := by decide +kernel
theorem dX6_looseEnd_11 : decode cX6_looseEnd 11 = .ok (.invokevirtual 59, 3) := by decide +kernel
theorem dX6_looseEnd_14 : decode cX6_looseEnd 14 = .ok (.aload_n 0, 1) := by decide +kernel
theorem dX6_looseEnd_15 : decode cX6_looseEnd 15 = .ok (.invokevirtual 63, 3) := by decide +kernel
theorem dX6_looseEnd_18 : decode cX6_looseEnd 18 = .ok (.bipush (-9), 2) := by decide +kernel
theorem dX6_looseEnd_20 : decode cX6_looseEnd 20 = .ok (.istore_n 2, 1) := by decide +kernel
theorem dX6_looseEnd_21 : decode cX6_looseEnd 21 = .ok (.ldc 73, 2) := by decide +kernel
theorem dX6_looseEnd_23 : decode cX6_looseEnd 23 = .ok (.istore_n 3, 1) := by decide +kernel
theorem dX6_looseEnd_24 : decode cX6_looseEnd 24 = .ok (.iconst 0, 1) := by decide +kernel
theorem dX6_looseEnd_25 : decode cX6_looseEnd 25 = .ok (.istore 4, 2) := by decide +kernel
theorem dX6_looseEnd_27 : decode cX6_looseEnd 27 = .ok (.iload 4, 2) := by decide +kernel
theorem dX6_looseEnd_29 : decode cX6_looseEnd 29 = .ok (.bipush 6, 2) := by decide +kernel
theorem dX6_looseEnd_31 : decode cX6_looseEnd 31 = .ok (.if_icmp .ge 29, 3) := by decide +kernel
theorem dX6_looseEnd_34 : decode cX6_looseEnd 34 = .ok (.aload_n 0, 1) := by decide +kernel
theorem dX6_looseEnd_35 : decode cX6_looseEnd 35 = .ok (.iload 4, 2) := by decide +kernel
theorem dX6_looseEnd_37 : decode cX6_looseEnd 37 = .ok (.invokevirtual 81, 3) := by decide +kernel
theorem dX6_looseEnd_40 : decode cX6_looseEnd 40 = .ok (.iload_n 3, 1) := by decide +kernel
theorem dX6_looseEnd_41 : decode cX6_looseEnd 41 = .ok (.if_icmp .ge 13, 3) := by decide +kernel
theorem dX6_looseEnd_44 : decode cX6_looseEnd 44 = .ok (.aload_n 0, 1) := by decide +kernel
theorem dX6_looseEnd_45 : decode cX6_looseEnd 45 = .ok (.iload 4, 2) := by decide +kernel
theorem dX6_looseEnd_47 : decode cX6_looseEnd 47 = .ok (.invokevirtual 81, 3) := by decide +kernel
theorem dX6_looseEnd_50 : decode cX6_looseEnd 50 = .ok (.istore_n 3, 1) := by decide +kernel
theorem dX6_looseEnd_51 : decode cX6_looseEnd 51 = .ok (.iload 4, 2) := by decide +kernel
theorem dX6_looseEnd_53 : decode cX6_looseEnd 53 = .ok (.istore_n 2, 1) := by decide +kernel
theorem dX6_looseEnd_54 : decode cX6_looseEnd 54 = .ok (.iinc 4 1, 3) := by decide +kernel
theorem dX6_looseEnd_57 : decode cX6_looseEnd 57 = .ok (.goto (-30), 3) := by decide +kernel
theorem dX6_looseEnd_60 : decode cX6_looseEnd 60 = .ok (.iload_n 2, 1) := by decide +kernel
theorem dX6_looseEnd_61 : decode cX6_looseEnd 61 = .ok (.ireturn, 1) := by decide +kernel
theorem dX6_looseCost_0 : decode cX6_looseCost 0 = .ok (.aload_n 0, 1) := by decide +kernel
theorem dX6_looseCost_1 : decode cX6_looseCost 1 = .ok (.getfield 18, 3) := by decide +kernel
theorem dX6_looseCost_4 : decode cX6_looseCost 4 = .ok (.aload_n 0, 1) := by decide +kernel
theorem dX6_looseCost_5 : decode cX6_looseCost 5 = .ok (.getfield 29, 3) := by decide +kernel
theorem dX6_looseCost_8 : decode cX6_looseCost 8 = .ok (.bipush 6, 2) := by decide +kernel
theorem dX6_looseCost_10 : decode cX6_looseCost 10 = .ok (.imul, 1) := by decide +kernel
theorem dX6_looseCost_11 : decode cX6_looseCost 11 = .ok (.iload_n 1, 1) := by decide +kernel
theorem dX6_looseCost_12 : decode cX6_looseCost 12 = .ok (.iadd, 1) := by decide +kernel
theorem dX6_looseCost_13 : decode cX6_looseCost 13 = .ok (.iaload, 1) := by decide +kernel
theorem dX6_looseCost_14 : decode cX6_looseCost 14 = .ok (.ireturn, 1) := by decide +kernel
theorem dX6_measure_0 : decode cX6_measure 0 = .ok (.aload_n 0, 1) := by decide +kernel
theorem dX6_measure_1 : decode cX6_measure 1 = .ok (.aload_n 0, 1) := by decide +kernel
theorem dX6_measure_2 : decode cX6_measure 2 = .ok (.getfield 12, 3) := by decide +kernel
theorem dX6_measure_5 : decode cX6_measure 5 = .ok (.getfield 49, 3) := by decide +kernel
theorem dX6_measure_8 : decode cX6_measure 8 = .ok (.invokevirtual 85, 3) := by decide +kernel
theorem dX6_measure_11 : decode cX6_measure 11 = .ok (.putfield 29, 3) := by decide +kernel
theorem dX6_measure_14 : decode cX6_measure 14 = .ok (.iconst 0, 1) := by decide +kernel
theorem dX6_measure_15 : decode cX6_measure 15 = .ok (.istore_n 1, 1) := by decide +kernel
theorem dX6_measure_16 : decode cX6_measure 16 = .ok (.iload_n 1, 1) := by decide +kernel
theorem dX6_measure_17 : decode cX6_measure 17 = .ok (.bipush 6, 2) := by decide +kernel
theorem dX6_measure_19 : decode cX6_measure 19 = .ok (.if_icmp .ge 33, 3) := by decide +kernel
theorem dX6_measure_22 : decode cX6_measure 22 = .ok (.aload_n 0, 1) := by decide +kernel
theorem dX6_measure_23 : decode cX6_measure 23 = .ok (.getfield 18, 3) := by decide +kernel
theorem dX6_measure_26 : decode cX6_measure 26 = .ok (.iload_n 1, 1) := by decide +kernel
theorem dX6_measure_27 : decode cX6_measure 27 = .ok (.aload_n 0, 1) := by decide +kernel
theorem dX6_measure_28 : decode cX6_measure 28 = .ok (.getfield 12, 3) := by decide +kernel
theorem dX6_measure_31 : decode cX6_measure 31 = .ok (.iload_n 1, 1) := by decide +kernel
theorem dX6_measure_32 : decode cX6_measure 32 = .ok (.aload_n 0, 1) := by decide +kernel
theorem dX6_measure_33 : decode cX6_measure 33 = .ok (.getfield 12, 3) := by decide +kernel
theorem dX6_measure_36 : decode cX6_measure 36 = .ok (.getfield 49, 3) := by decide +kernel
theorem dX6_measure_39 : decode cX6_measure 39 = .ok (.getfield 74, 3) := by decide +kernel
theorem dX6_measure_42 : decode cX6_measure 42 = .ok (.invokevirtual 88, 3) := by decide +kernel
theorem dX6_measure_45 : decode cX6_measure 45 = .ok (.iastore, 1) := by decide +kernel
theorem dX6_measure_46 : decode cX6_measure 46 = .ok (.iinc 1 1, 3) := by decide +kernel
theorem dX6_measure_49 : decode cX6_measure 49 = .ok (.goto (-33), 3) := by decide +kernel
theorem dX6_measure_52 : decode cX6_measure 52 = .ok (.iconst 1, 1) := by decide +kernel
theorem dX6_measure_53 : decode cX6_measure 53 = .ok (.istore_n 1, 1) := by decide +kernel
theorem dX6_measure_54 : decode cX6_measure 54 = .ok (.iload_n 1, 1) := by decide +kernel
theorem dX6_measure_55 : decode cX6_measure 55 = .ok (.aload_n 0, 1) := by decide +kernel
theorem dX6_measure_56 : decode cX6_measure 56 = .ok (.getfield 29, 3) := by decide +kernel
theorem dX6_measure_59 : decode cX6_measure 59 = .ok (.if_icmp .gt 30, 3) := by decide +kernel
theorem dX6_measure_62 : decode cX6_measure 62 = .ok (.iload_n 1, 1) := by decide +kernel
theorem dX6_measure_63 : decode cX6_measure 63 = .ok (.aload_n 0, 1) := by decide +kernel
theorem dX6_measure_64 : decode cX6_measure 64 = .ok (.getfield 29, 3) := by decide +kernel
theorem dX6_measure_67 : decode cX6_measure 67 = .ok (.iconst (-1), 1) := by decide +kernel
theorem dX6_measure_68 : decode cX6_measure 68 = .ok (.ixor, 1) := by decide +kernel
theorem dX6_measure_69 : decode cX6_measure 69 = .ok (.iand, 1) := by decide +kernel
theorem dX6_measure_70 : decode cX6_measure 70 = .ok (.ifCond .ne 13, 3) := by decide +kernel
theorem dX6_measure_73 : decode cX6_measure 73 = .ok (.aload_n 0, 1) := by decide +kernel
theorem dX6_measure_74 : decode cX6_measure 74 = .ok (.iload_n 1, 1) := by decide +kernel
theorem dX6_measure_75 : decode cX6_measure 75 = .ok (.invokevirtual 92, 3) := by decide +kernel
theorem dX6_measure_78 : decode cX6_measure 78 = .ok (.aload_n 0, 1) := by decide +kernel
theorem dX6_measure_79 : decode cX6_measure 79 = .ok (.iload_n 1, 1) := by decide +kernel
theorem dX6_measure_80 : decode cX6_measure 80 = .ok (.invokevirtual 96, 3) := by decide +kernel
theorem dX6_measure_83 : decode cX6_measure 83 = .ok (.iinc 1 1, 3) := by decide +kernel
theorem dX6_measure_86 : decode cX6_measure 86 = .ok (.goto (-32), 3) := by decide +kernel
theorem dX6_measure_89 : decode cX6_measure 89 = .ok (.return_, 1) := by decide +kernel
theorem dX6_measureFirst_0 : decode cX6_measureFirst 0 = .ok (.iconst 0, 1) := by decide +kernel
theorem dX6_measureFirst_1 : decode cX6_measureFirst 1 = .ok (.istore_n 2, 1) := by decide +kernel
theorem dX6_measureFirst_2 : decode cX6_measureFirst 2 = .ok (.iload_n 2, 1) := by decide +kernel
theorem dX6_measureFirst_3 : decode cX6_measureFirst 3 = .ok (.bipush 6, 2) := by decide +kernel
theorem dX6_measureFirst_5 : decode cX6_measureFirst 5 = .ok (.if_icmp .ge 17, 3) := by decide +kernel
theorem dX6_measureFirst_8 : decode cX6_measureFirst 8 = .ok (.aload_n 0, 1) := by decide +kernel
theorem dX6_measureFirst_9 : decode cX6_measureFirst 9 = .ok (.getfield 22, 3) := by decide +kernel
theorem dX6_measureFirst_12 : decode cX6_measureFirst 12 = .ok (.iload_n 2, 1) := by decide +kernel
theorem dX6_measureFirst_13 : decode cX6_measureFirst 13 = .ok (.ldc 73, 2) := by decide +kernel
theorem dX6_measureFirst_15 : decode cX6_measureFirst 15 = .ok (.iastore, 1) := by decide +kernel
theorem dX6_measureFirst_16 : decode cX6_measureFirst 16 = .ok (.iinc 2 1, 3) := by decide +kernel
theorem dX6_measureFirst_19 : decode cX6_measureFirst 19 = .ok (.goto (-17), 3) := by decide +kernel
theorem dX6_measureFirst_22 : decode cX6_measureFirst 22 = .ok (.iconst 0, 1) := by decide +kernel
theorem dX6_measureFirst_23 : decode cX6_measureFirst 23 = .ok (.istore_n 2, 1) := by decide +kernel
theorem dX6_measureFirst_24 : decode cX6_measureFirst 24 = .ok (.iload_n 2, 1) := by decide +kernel
theorem dX6_measureFirst_25 : decode cX6_measureFirst 25 = .ok (.aload_n 0, 1) := by decide +kernel
theorem dX6_measureFirst_26 : decode cX6_measureFirst 26 = .ok (.getfield 12, 3) := by decide +kernel
theorem dX6_measureFirst_29 : decode cX6_measureFirst 29 = .ok (.getfield 49, 3) := by decide +kernel
theorem dX6_measureFirst_32 : decode cX6_measureFirst 32 = .ok (.getfield 99, 3) := by decide +kernel
theorem dX6_measureFirst_35 : decode cX6_measureFirst 35 = .ok (.if_icmp .ge 128, 3) := by decide +kernel
theorem dX6_measureFirst_38 : decode cX6_measureFirst 38 = .ok (.iload_n 1, 1) := by decide +kernel
theorem dX6_measureFirst_39 : decode cX6_measureFirst 39 = .ok (.iload_n 2, 1) := by decide +kernel
theorem dX6_measureFirst_40 : decode cX6_measureFirst 40 = .ok (.ishr, 1) := by decide +kernel
theorem dX6_measureFirst_41 : decode cX6_measureFirst 41 = .ok (.iconst 1, 1) := by decide +kernel
theorem dX6_measureFirst_42 : decode cX6_measureFirst 42 = .ok (.iand, 1) := by decide +kernel
theorem dX6_measureFirst_43 : decode cX6_measureFirst 43 = .ok (.ifCond .eq 114, 3) := by decide +kernel
theorem dX6_measureFirst_46 : decode cX6_measureFirst 46 = .ok (.iload_n 1, 1) := by decide +kernel
theorem dX6_measureFirst_47 : decode cX6_measureFirst 47 = .ok (.iconst 1, 1) := by decide +kernel
theorem dX6_measureFirst_48 : decode cX6_measureFirst 48 = .ok (.iload_n 2, 1) := by decide +kernel
theorem dX6_measureFirst_49 : decode cX6_measureFirst 49 = .ok (.ishl, 1) := by decide +kernel
theorem dX6_measureFirst_50 : decode cX6_measureFirst 50 = .ok (.iconst (-1), 1) := by decide +kernel
theorem dX6_measureFirst_51 : decode cX6_measureFirst 51 = .ok (.ixor, 1) := by decide +kernel
theorem dX6_measureFirst_52 : decode cX6_measureFirst 52 = .ok (.iand, 1) := by decide +kernel
theorem dX6_measureFirst_53 : decode cX6_measureFirst 53 = .ok (.bipush 6, 2) := by decide +kernel
theorem dX6_measureFirst_55 : decode cX6_measureFirst 55 = .ok (.imul, 1) := by decide +kernel
theorem dX6_measureFirst_56 : decode cX6_measureFirst 56 = .ok (.istore_n 3, 1) := by decide +kernel
theorem dX6_measureFirst_57 : decode cX6_measureFirst 57 = .ok (.aload_n 0, 1) := by decide +kernel
theorem dX6_measureFirst_58 : decode cX6_measureFirst 58 = .ok (.getfield 12, 3) := by decide +kernel
theorem dX6_measureFirst_61 : decode cX6_measureFirst 61 = .ok (.getfield 49, 3) := by decide +kernel
theorem dX6_measureFirst_64 : decode cX6_measureFirst 64 = .ok (.getfield 100, 3) := by decide +kernel
theorem dX6_measureFirst_67 : decode cX6_measureFirst 67 = .ok (.iload_n 2, 1) := by decide +kernel
theorem dX6_measureFirst_68 : decode cX6_measureFirst 68 = .ok (.iaload, 1) := by decide +kernel
theorem dX6_measureFirst_69 : decode cX6_measureFirst 69 = .ok (.istore 4, 2) := by decide +kernel
theorem dX6_measureFirst_71 : decode cX6_measureFirst 71 = .ok (.aload_n 0, 1) := by decide +kernel
theorem dX6_measureFirst_72 : decode cX6_measureFirst 72 = .ok (.getfield 12, 3) := by decide +kernel
theorem dX6_measureFirst_75 : decode cX6_measureFirst 75 = .ok (.getfield 49, 3) := by decide +kernel
theorem dX6_measureFirst_78 : decode cX6_measureFirst 78 = .ok (.getfield 103, 3) := by decide +kernel
theorem dX6_measureFirst_81 : decode cX6_measureFirst 81 = .ok (.iload_n 2, 1) := by decide +kernel
theorem dX6_measureFirst_82 : decode cX6_measureFirst 82 = .ok (.iaload, 1) := by decide +kernel
theorem dX6_measureFirst_83 : decode cX6_measureFirst 83 = .ok (.istore 5, 2) := by decide +kernel
theorem dX6_measureFirst_85 : decode cX6_measureFirst 85 = .ok (.aload_n 0, 1) := by decide +kernel
theorem dX6_measureFirst_86 : decode cX6_measureFirst 86 = .ok (.getfield 22, 3) := by decide +kernel
theorem dX6_measureFirst_89 : decode cX6_measureFirst 89 = .ok (.iload 4, 2) := by decide +kernel
theorem dX6_measureFirst_91 : decode cX6_measureFirst 91 = .ok (.aload_n 0, 1) := by decide +kernel
theorem dX6_measureFirst_92 : decode cX6_measureFirst 92 = .ok (.getfield 22, 3) := by decide +kernel
theorem dX6_measureFirst_95 : decode cX6_measureFirst 95 = .ok (.iload 4, 2) := by decide +kernel
theorem dX6_measureFirst_97 : decode cX6_measureFirst 97 = .ok (.iaload, 1) := by decide +kernel
theorem dX6_measureFirst_98 : decode cX6_measureFirst 98 = .ok (.aload_n 0, 1) := by decide +kernel
theorem dX6_measureFirst_99 : decode cX6_measureFirst 99 = .ok (.getfield 12, 3) := by decide +kernel
theorem dX6_measureFirst_102 : decode cX6_measureFirst 102 = .ok (.getfield 106, 3) := by decide +kernel
theorem dX6_measureFirst_105 : decode cX6_measureFirst 105 = .ok (.iload_n 2, 1) := by decide +kernel
theorem dX6_measureFirst_106 : decode cX6_measureFirst 106 = .ok (.iaload, 1) := by decide +kernel
theorem dX6_measureFirst_107 : decode cX6_measureFirst 107 = .ok (.aload_n 0, 1) := by decide +kernel
theorem dX6_measureFirst_108 : decode cX6_measureFirst 108 = .ok (.getfield 18, 3) := by decide +kernel
theorem dX6_measureFirst_111 : decode cX6_measureFirst 111 = .ok (.iload_n 3, 1) := by decide +kernel
theorem dX6_measureFirst_112 : decode cX6_measureFirst 112 = .ok (.iload 5, 2) := by decide +kernel
theorem dX6_measureFirst_114 : decode cX6_measureFirst 114 = .ok (.iadd, 1) := by decide +kernel
theorem dX6_measureFirst_115 : decode cX6_measureFirst 115 = .ok (.iaload, 1) := by decide +kernel
theorem dX6_measureFirst_116 : decode cX6_measureFirst 116 = .ok (.iadd, 1) := by decide +kernel
theorem dX6_measureFirst_117 : decode cX6_measureFirst 117 = .ok (.invokestatic 109, 3) := by decide +kernel
theorem dX6_measureFirst_120 : decode cX6_measureFirst 120 = .ok (.iastore, 1) := by decide +kernel
theorem dX6_measureFirst_121 : decode cX6_measureFirst 121 = .ok (.aload_n 0, 1) := by decide +kernel
theorem dX6_measureFirst_122 : decode cX6_measureFirst 122 = .ok (.getfield 22, 3) := by decide +kernel
theorem dX6_measureFirst_125 : decode cX6_measureFirst 125 = .ok (.iload 5, 2) := by decide +kernel
theorem dX6_measureFirst_127 : decode cX6_measureFirst 127 = .ok (.aload_n 0, 1) := by decide +kernel
theorem dX6_measureFirst_128 : decode cX6_measureFirst 128 = .ok (.getfield 22, 3) := by decide +kernel
theorem dX6_measureFirst_131 : decode cX6_measureFirst 131 = .ok (.iload 5, 2) := by decide +kernel
theorem dX6_measureFirst_133 : decode cX6_measureFirst 133 = .ok (.iaload, 1) := by decide +kernel
theorem dX6_measureFirst_134 : decode cX6_measureFirst 134 = .ok (.aload_n 0, 1) := by decide +kernel
theorem dX6_measureFirst_135 : decode cX6_measureFirst 135 = .ok (.getfield 12, 3) := by decide +kernel
theorem dX6_measureFirst_138 : decode cX6_measureFirst 138 = .ok (.getfield 114, 3) := by decide +kernel
theorem dX6_measureFirst_141 : decode cX6_measureFirst 141 = .ok (.iload_n 2, 1) := by decide +kernel
theorem dX6_measureFirst_142 : decode cX6_measureFirst 142 = .ok (.iaload, 1) := by decide +kernel
theorem dX6_measureFirst_143 : decode cX6_measureFirst 143 = .ok (.aload_n 0, 1) := by decide +kernel
theorem dX6_measureFirst_144 : decode cX6_measureFirst 144 = .ok (.getfield 18, 3) := by decide +kernel
theorem dX6_measureFirst_147 : decode cX6_measureFirst 147 = .ok (.iload_n 3, 1) := by decide +kernel
theorem dX6_measureFirst_148 : decode cX6_measureFirst 148 = .ok (.iload 4, 2) := by decide +kernel
theorem dX6_measureFirst_150 : decode cX6_measureFirst 150 = .ok (.iadd, 1) := by decide +kernel
theorem dX6_measureFirst_151 : decode cX6_measureFirst 151 = .ok (.iaload, 1) := by decide +kernel
theorem dX6_measureFirst_152 : decode cX6_measureFirst 152 = .ok (.iadd, 1) := by decide +kernel
theorem dX6_measureFirst_153 : decode cX6_measureFirst 153 = .ok (.invokestatic 109, 3) := by decide +kernel
theorem dX6_measureFirst_156 : decode cX6_measureFirst 156 = .ok (.iastore, 1) := by decide +kernel
theorem dX6_measureFirst_157 : decode cX6_measureFirst 157 = .ok (.iinc 2 1, 3) := by decide +kernel
theorem dX6_measureFirst_160 : decode cX6_measureFirst 160 = .ok (.goto (-136), 3) := by decide +kernel
theorem dX6_measureFirst_163 : decode cX6_measureFirst 163 = .ok (.return_, 1) := by decide +kernel
theorem dX6_measureSet_0 : decode cX6_measureSet 0 = .ok (.aload_n 0, 1) := by decide +kernel
theorem dX6_measureSet_1 : decode cX6_measureSet 1 = .ok (.getfield 12, 3) := by decide +kernel
theorem dX6_measureSet_4 : decode cX6_measureSet 4 = .ok (.getfield 117, 3) := by decide +kernel
theorem dX6_measureSet_7 : decode cX6_measureSet 7 = .ok (.astore_n 2, 1) := by decide +kernel
theorem dX6_measureSet_8 : decode cX6_measureSet 8 = .ok (.iconst 0, 1) := by decide +kernel
theorem dX6_measureSet_9 : decode cX6_measureSet 9 = .ok (.istore_n 3, 1) := by decide +kernel
theorem dX6_measureSet_10 : decode cX6_measureSet 10 = .ok (.iload_n 3, 1) := by decide +kernel
theorem dX6_measureSet_11 : decode cX6_measureSet 11 = .ok (.bipush 6, 2) := by decide +kernel
theorem dX6_measureSet_13 : decode cX6_measureSet 13 = .ok (.if_icmp .ge 72, 3) := by decide +kernel
theorem dX6_measureSet_16 : decode cX6_measureSet 16 = .ok (.ldc 73, 2) := by decide +kernel
theorem dX6_measureSet_18 : decode cX6_measureSet 18 = .ok (.istore 4, 2) := by decide +kernel
theorem dX6_measureSet_20 : decode cX6_measureSet 20 = .ok (.iconst 0, 1) := by decide +kernel
theorem dX6_measureSet_21 : decode cX6_measureSet 21 = .ok (.istore 5, 2) := by decide +kernel
theorem dX6_measureSet_23 : decode cX6_measureSet 23 = .ok (.iload 5, 2) := by decide +kernel
theorem dX6_measureSet_25 : decode cX6_measureSet 25 = .ok (.bipush 6, 2) := by decide +kernel
theorem dX6_measureSet_27 : decode cX6_measureSet 27 = .ok (.if_icmp .ge 39, 3) := by decide +kernel
theorem dX6_measureSet_30 : decode cX6_measureSet 30 = .ok (.aload_n 2, 1) := by decide +kernel
theorem dX6_measureSet_31 : decode cX6_measureSet 31 = .ok (.iload_n 3, 1) := by decide +kernel
theorem dX6_measureSet_32 : decode cX6_measureSet 32 = .ok (.bipush 6, 2) := by decide +kernel
theorem dX6_measureSet_34 : decode cX6_measureSet 34 = .ok (.imul, 1) := by decide +kernel
theorem dX6_measureSet_35 : decode cX6_measureSet 35 = .ok (.iload 5, 2) := by decide +kernel
theorem dX6_measureSet_37 : decode cX6_measureSet 37 = .ok (.iadd, 1) := by decide +kernel
theorem dX6_measureSet_38 : decode cX6_measureSet 38 = .ok (.iaload, 1) := by decide +kernel
theorem dX6_measureSet_39 : decode cX6_measureSet 39 = .ok (.aload_n 0, 1) := by decide +kernel
theorem dX6_measureSet_40 : decode cX6_measureSet 40 = .ok (.getfield 22, 3) := by decide +kernel
theorem dX6_measureSet_43 : decode cX6_measureSet 43 = .ok (.iload 5, 2) := by decide +kernel
theorem dX6_measureSet_45 : decode cX6_measureSet 45 = .ok (.iaload, 1) := by decide +kernel
theorem dX6_measureSet_46 : decode cX6_measureSet 46 = .ok (.iadd, 1) := by decide +kernel
theorem dX6_measureSet_47 : decode cX6_measureSet 47 = .ok (.istore 6, 2) := by decide +kernel
theorem dX6_measureSet_49 : decode cX6_measureSet 49 = .ok (.iload 6, 2) := by decide +kernel
theorem dX6_measureSet_51 : decode cX6_measureSet 51 = .ok (.iload 4, 2) := by decide +kernel
theorem dX6_measureSet_53 : decode cX6_measureSet 53 = .ok (.if_icmp .ge 7, 3) := by decide +kernel
theorem dX6_measureSet_56 : decode cX6_measureSet 56 = .ok (.iload 6, 2) := by decide +kernel
theorem dX6_measureSet_58 : decode cX6_measureSet 58 = .ok (.istore 4, 2) := by decide +kernel
theorem dX6_measureSet_60 : decode cX6_measureSet 60 = .ok (.iinc 5 1, 3) := by decide +kernel
theorem dX6_measureSet_63 : decode cX6_measureSet 63 = .ok (.goto (-40), 3) := by decide +kernel
theorem dX6_measureSet_66 : decode cX6_measureSet 66 = .ok (.aload_n 0, 1) := by decide +kernel
theorem dX6_measureSet_67 : decode cX6_measureSet 67 = .ok (.getfield 18, 3) := by decide +kernel
theorem dX6_measureSet_70 : decode cX6_measureSet 70 = .ok (.iload_n 1, 1) := by decide +kernel
theorem dX6_measureSet_71 : decode cX6_measureSet 71 = .ok (.bipush 6, 2) := by decide +kernel
theorem dX6_measureSet_73 : decode cX6_measureSet 73 = .ok (.imul, 1) := by decide +kernel
theorem dX6_measureSet_74 : decode cX6_measureSet 74 = .ok (.iload_n 3, 1) := by decide +kernel
theorem dX6_measureSet_75 : decode cX6_measureSet 75 = .ok (.iadd, 1) := by decide +kernel
theorem dX6_measureSet_76 : decode cX6_measureSet 76 = .ok (.iload 4, 2) := by decide +kernel
theorem dX6_measureSet_78 : decode cX6_measureSet 78 = .ok (.iastore, 1) := by decide +kernel
theorem dX6_measureSet_79 : decode cX6_measureSet 79 = .ok (.iinc 3 1, 3) := by decide +kernel
theorem dX6_measureSet_82 : decode cX6_measureSet 82 = .ok (.goto (-72), 3) := by decide +kernel
theorem dX6_measureSet_85 : decode cX6_measureSet 85 = .ok (.return_, 1) := by decide +kernel
theorem dX6_trace_0 : decode cX6_trace 0 = .ok (.aload_n 0, 1) := by decide +kernel
theorem dX6_trace_1 : decode cX6_trace 1 = .ok (.getfield 12, 3) := by decide +kernel
theorem dX6_trace_4 : decode cX6_trace 4 = .ok (.getfield 49, 3) := by decide +kernel
theorem dX6_trace_7 : decode cX6_trace 7 = .ok (.getfield 74, 3) := by decide +kernel
theorem dX6_trace_10 : decode cX6_trace 10 = .ok (.istore_n 1, 1) := by decide +kernel
theorem dX6_trace_11 : decode cX6_trace 11 = .ok (.aload_n 0, 1) := by decide +kernel
theorem dX6_trace_12 : decode cX6_trace 12 = .ok (.getfield 29, 3) := by decide +kernel
theorem dX6_trace_15 : decode cX6_trace 15 = .ok (.istore_n 2, 1) := by decide +kernel
theorem dX6_trace_16 : decode cX6_trace 16 = .ok (.aload_n 0, 1) := by decide +kernel
theorem dX6_trace_17 : decode cX6_trace 17 = .ok (.iconst 0, 1) := by decide +kernel
theorem dX6_trace_18 : decode cX6_trace 18 = .ok (.putfield 33, 3) := by decide +kernel
theorem dX6_trace_21 : decode cX6_trace 21 = .ok (.aload_n 0, 1) := by decide +kernel
theorem dX6_trace_22 : decode cX6_trace 22 = .ok (.getfield 39, 3) := by decide +kernel
theorem dX6_trace_25 : decode cX6_trace 25 = .ok (.iconst 0, 1) := by decide +kernel
theorem dX6_trace_26 : decode cX6_trace 26 = .ok (.iload_n 1, 1) := by decide +kernel
theorem dX6_trace_27 : decode cX6_trace 27 = .ok (.iastore, 1) := by decide +kernel
theorem dX6_trace_28 : decode cX6_trace 28 = .ok (.aload_n 0, 1) := by decide +kernel
theorem dX6_trace_29 : decode cX6_trace 29 = .ok (.invokevirtual 77, 3) := by decide +kernel
theorem dX6_trace_32 : decode cX6_trace 32 = .ok (.ifCond .ne 4, 3) := by decide +kernel
theorem dX6_trace_35 : decode cX6_trace 35 = .ok (.return_, 1) := by decide +kernel
theorem dX6_trace_36 : decode cX6_trace 36 = .ok (.aload_n 0, 1) := by decide +kernel
theorem dX6_trace_37 : decode cX6_trace 37 = .ok (.getfield 33, 3) := by decide +kernel
theorem dX6_trace_40 : decode cX6_trace 40 = .ok (.bipush 64, 2) := by decide +kernel
theorem dX6_trace_42 : decode cX6_trace 42 = .ok (.if_icmp .ge 127, 3) := by decide +kernel
theorem dX6_trace_45 : decode cX6_trace 45 = .ok (.iload_n 2, 1) := by decide +kernel
theorem dX6_trace_46 : decode cX6_trace 46 = .ok (.ifCond .ne 17, 3) := by decide +kernel
theorem dX6_trace_49 : decode cX6_trace 49 = .ok (.iload_n 1, 1) := by decide +kernel
theorem dX6_trace_50 : decode cX6_trace 50 = .ok (.aload_n 0, 1) := by decide +kernel
theorem dX6_trace_51 : decode cX6_trace 51 = .ok (.getfield 12, 3) := by decide +kernel
theorem dX6_trace_54 : decode cX6_trace 54 = .ok (.getfield 49, 3) := by decide +kernel
theorem dX6_trace_57 : decode cX6_trace 57 = .ok (.getfield 74, 3) := by decide +kernel
theorem dX6_trace_60 : decode cX6_trace 60 = .ok (.if_icmp .eq 109, 3) := by decide +kernel
theorem dX6_trace_63 : decode cX6_trace 63 = .ok (.aload_n 0, 1) := by decide +kernel
theorem dX6_trace_64 : decode cX6_trace 64 = .ok (.iload_n 1, 1) := by decide +kernel
theorem dX6_trace_65 : decode cX6_trace 65 = .ok (.iload_n 2, 1) := by decide +kernel
theorem dX6_trace_66 : decode cX6_trace 66 = .ok (.invokevirtual 120, 3) := by decide +kernel
theorem dX6_trace_69 : decode cX6_trace 69 = .ok (.istore_n 3, 1) := by decide +kernel
theorem dX6_trace_70 : decode cX6_trace 70 = .ok (.iload_n 3, 1) := by decide +kernel
theorem dX6_trace_71 : decode cX6_trace 71 = .ok (.ifCond .ge 4, 3) := by decide +kernel
theorem dX6_trace_74 : decode cX6_trace 74 = .ok (.return_, 1) := by decide +kernel
theorem dX6_trace_75 : decode cX6_trace 75 = .ok (.aload_n 0, 1) := by decide +kernel
theorem dX6_trace_76 : decode cX6_trace 76 = .ok (.getfield 36, 3) := by decide +kernel
theorem dX6_trace_79 : decode cX6_trace 79 = .ok (.aload_n 0, 1) := by decide +kernel
theorem dX6_trace_80 : decode cX6_trace 80 = .ok (.getfield 33, 3) := by decide +kernel
theorem dX6_trace_83 : decode cX6_trace 83 = .ok (.iload_n 3, 1) := by decide +kernel
theorem dX6_trace_84 : decode cX6_trace 84 = .ok (.iastore, 1) := by decide +kernel
theorem dX6_trace_85 : decode cX6_trace 85 = .ok (.aload_n 0, 1) := by decide +kernel
theorem dX6_trace_86 : decode cX6_trace 86 = .ok (.getfield 42, 3) := by decide +kernel
theorem dX6_trace_89 : decode cX6_trace 89 = .ok (.aload_n 0, 1) := by decide +kernel
theorem dX6_trace_90 : decode cX6_trace 90 = .ok (.getfield 33, 3) := by decide +kernel
theorem dX6_trace_93 : decode cX6_trace 93 = .ok (.aload_n 0, 1) := by decide +kernel
theorem dX6_trace_94 : decode cX6_trace 94 = .ok (.getfield 12, 3) := by decide +kernel
theorem dX6_trace_97 : decode cX6_trace 97 = .ok (.iload_n 3, 1) := by decide +kernel
theorem dX6_trace_98 : decode cX6_trace 98 = .ok (.iload_n 1, 1) := by decide +kernel
theorem dX6_trace_99 : decode cX6_trace 99 = .ok (.invokevirtual 123, 3) := by decide +kernel
theorem dX6_trace_102 : decode cX6_trace 102 = .ok (.iastore, 1) := by decide +kernel
theorem dX6_trace_103 : decode cX6_trace 103 = .ok (.aload_n 0, 1) := by decide +kernel
theorem dX6_trace_104 : decode cX6_trace 104 = .ok (.getfield 45, 3) := by decide +kernel
theorem dX6_trace_107 : decode cX6_trace 107 = .ok (.aload_n 0, 1) := by decide +kernel
theorem dX6_trace_108 : decode cX6_trace 108 = .ok (.getfield 33, 3) := by decide +kernel
theorem dX6_trace_111 : decode cX6_trace 111 = .ok (.iload_n 2, 1) := by decide +kernel
theorem dX6_trace_112 : decode cX6_trace 112 = .ok (.iload_n 3, 1) := by decide +kernel
theorem dX6_trace_113 : decode cX6_trace 113 = .ok (.ishr, 1) := by decide +kernel
theorem dX6_trace_114 : decode cX6_trace 114 = .ok (.iconst 1, 1) := by decide +kernel
theorem dX6_trace_115 : decode cX6_trace 115 = .ok (.iand, 1) := by decide +kernel
theorem dX6_trace_116 : decode cX6_trace 116 = .ok (.ifCond .ne 7, 3) := by decide +kernel
theorem dX6_trace_119 : decode cX6_trace 119 = .ok (.iconst 1, 1) := by decide +kernel
theorem dX6_trace_120 : decode cX6_trace 120 = .ok (.goto 4, 3) := by decide +kernel
theorem dX6_trace_123 : decode cX6_trace 123 = .ok (.iconst 0, 1) := by decide +kernel
theorem dX6_trace_124 : decode cX6_trace 124 = .ok (.bastore, 1) := by decide +kernel
theorem dX6_trace_125 : decode cX6_trace 125 = .ok (.aload_n 0, 1) := by decide +kernel
theorem dX6_trace_126 : decode cX6_trace 126 = .ok (.getfield 12, 3) := by decide +kernel
theorem dX6_trace_129 : decode cX6_trace 129 = .ok (.getfield 49, 3) := by decide +kernel
theorem dX6_trace_132 : decode cX6_trace 132 = .ok (.iload_n 3, 1) := by decide +kernel
theorem dX6_trace_133 : decode cX6_trace 133 = .ok (.iload_n 1, 1) := by decide +kernel
theorem dX6_trace_134 : decode cX6_trace 134 = .ok (.invokevirtual 126, 3) := by decide +kernel
theorem dX6_trace_137 : decode cX6_trace 137 = .ok (.istore_n 1, 1) := by decide +kernel
theorem dX6_trace_138 : decode cX6_trace 138 = .ok (.iload_n 2, 1) := by decide +kernel
theorem dX6_trace_139 : decode cX6_trace 139 = .ok (.iconst 1, 1) := by decide +kernel
theorem dX6_trace_140 : decode cX6_trace 140 = .ok (.iload_n 3, 1) := by decide +kernel
theorem dX6_trace_141 : decode cX6_trace 141 = .ok (.ishl, 1) := by decide +kernel
theorem dX6_trace_142 : decode cX6_trace 142 = .ok (.iconst (-1), 1) := by decide +kernel
theorem dX6_trace_143 : decode cX6_trace 143 = .ok (.ixor, 1) := by decide +kernel
theorem dX6_trace_144 : decode cX6_trace 144 = .ok (.iand, 1) := by decide +kernel
theorem dX6_trace_145 : decode cX6_trace 145 = .ok (.istore_n 2, 1) := by decide +kernel
theorem dX6_trace_146 : decode cX6_trace 146 = .ok (.aload_n 0, 1) := by decide +kernel
theorem dX6_trace_147 : decode cX6_trace 147 = .ok (.dup, 1) := by decide +kernel
theorem dX6_trace_148 : decode cX6_trace 148 = .ok (.getfield 33, 3) := by decide +kernel
theorem dX6_trace_151 : decode cX6_trace 151 = .ok (.iconst 1, 1) := by decide +kernel
theorem dX6_trace_152 : decode cX6_trace 152 = .ok (.iadd, 1) := by decide +kernel
theorem dX6_trace_153 : decode cX6_trace 153 = .ok (.putfield 33, 3) := by decide +kernel
theorem dX6_trace_156 : decode cX6_trace 156 = .ok (.aload_n 0, 1) := by decide +kernel
theorem dX6_trace_157 : decode cX6_trace 157 = .ok (.getfield 39, 3) := by decide +kernel
theorem dX6_trace_160 : decode cX6_trace 160 = .ok (.aload_n 0, 1) := by decide +kernel
theorem dX6_trace_161 : decode cX6_trace 161 = .ok (.getfield 33, 3) := by decide +kernel
theorem dX6_trace_164 : decode cX6_trace 164 = .ok (.iload_n 1, 1) := by decide +kernel
theorem dX6_trace_165 : decode cX6_trace 165 = .ok (.iastore, 1) := by decide +kernel
theorem dX6_trace_166 : decode cX6_trace 166 = .ok (.goto (-130), 3) := by decide +kernel
theorem dX6_trace_169 : decode cX6_trace 169 = .ok (.return_, 1) := by decide +kernel
theorem dX6_leastStreet_0 : decode cX6_leastStreet 0 = .ok (.aload_n 0, 1) := by decide +kernel
theorem dX6_leastStreet_1 : decode cX6_leastStreet 1 = .ok (.getfield 18, 3) := by decide +kernel
theorem dX6_leastStreet_4 : decode cX6_leastStreet 4 = .ok (.iload_n 2, 1) := by decide +kernel
theorem dX6_leastStreet_5 : decode cX6_leastStreet 5 = .ok (.bipush 6, 2) := by decide +kernel
theorem dX6_leastStreet_7 : decode cX6_leastStreet 7 = .ok (.imul, 1) := by decide +kernel
theorem dX6_leastStreet_8 : decode cX6_leastStreet 8 = .ok (.iload_n 1, 1) := by decide +kernel
theorem dX6_leastStreet_9 : decode cX6_leastStreet 9 = .ok (.iadd, 1) := by decide +kernel
theorem dX6_leastStreet_10 : decode cX6_leastStreet 10 = .ok (.iaload, 1) := by decide +kernel
theorem dX6_leastStreet_11 : decode cX6_leastStreet 11 = .ok (.istore_n 3, 1) := by decide +kernel
theorem dX6_leastStreet_12 : decode cX6_leastStreet 12 = .ok (.iconst 0, 1) := by decide +kernel
theorem dX6_leastStreet_13 : decode cX6_leastStreet 13 = .ok (.istore 4, 2) := by decide +kernel
theorem dX6_leastStreet_15 : decode cX6_leastStreet 15 = .ok (.iload 4, 2) := by decide +kernel
theorem dX6_leastStreet_17 : decode cX6_leastStreet 17 = .ok (.aload_n 0, 1) := by decide +kernel
theorem dX6_leastStreet_18 : decode cX6_leastStreet 18 = .ok (.getfield 12, 3) := by decide +kernel
theorem dX6_leastStreet_21 : decode cX6_leastStreet 21 = .ok (.getfield 49, 3) := by decide +kernel
theorem dX6_leastStreet_24 : decode cX6_leastStreet 24 = .ok (.getfield 99, 3) := by decide +kernel
theorem dX6_leastStreet_27 : decode cX6_leastStreet 27 = .ok (.if_icmp .ge 72, 3) := by decide +kernel
theorem dX6_leastStreet_30 : decode cX6_leastStreet 30 = .ok (.aload_n 0, 1) := by decide +kernel
theorem dX6_leastStreet_31 : decode cX6_leastStreet 31 = .ok (.getfield 12, 3) := by decide +kernel
theorem dX6_leastStreet_34 : decode cX6_leastStreet 34 = .ok (.iload 4, 2) := by decide +kernel
theorem dX6_leastStreet_36 : decode cX6_leastStreet 36 = .ok (.iload_n 1, 1) := by decide +kernel
theorem dX6_leastStreet_37 : decode cX6_leastStreet 37 = .ok (.invokevirtual 123, 3) := by decide +kernel
theorem dX6_leastStreet_40 : decode cX6_leastStreet 40 = .ok (.istore 5, 2) := by decide +kernel
theorem dX6_leastStreet_42 : decode cX6_leastStreet 42 = .ok (.iload_n 2, 1) := by decide +kernel
theorem dX6_leastStreet_43 : decode cX6_leastStreet 43 = .ok (.iconst 1, 1) := by decide +kernel
theorem dX6_leastStreet_44 : decode cX6_leastStreet 44 = .ok (.iload 4, 2) := by decide +kernel
theorem dX6_leastStreet_46 : decode cX6_leastStreet 46 = .ok (.ishl, 1) := by decide +kernel
theorem dX6_leastStreet_47 : decode cX6_leastStreet 47 = .ok (.iconst (-1), 1) := by decide +kernel
theorem dX6_leastStreet_48 : decode cX6_leastStreet 48 = .ok (.ixor, 1) := by decide +kernel
theorem dX6_leastStreet_49 : decode cX6_leastStreet 49 = .ok (.iand, 1) := by decide +kernel
theorem dX6_leastStreet_50 : decode cX6_leastStreet 50 = .ok (.bipush 6, 2) := by decide +kernel
theorem dX6_leastStreet_52 : decode cX6_leastStreet 52 = .ok (.imul, 1) := by decide +kernel
theorem dX6_leastStreet_53 : decode cX6_leastStreet 53 = .ok (.istore 6, 2) := by decide +kernel
theorem dX6_leastStreet_55 : decode cX6_leastStreet 55 = .ok (.iload 5, 2) := by decide +kernel
theorem dX6_leastStreet_57 : decode cX6_leastStreet 57 = .ok (.ldc 73, 2) := by decide +kernel
theorem dX6_leastStreet_59 : decode cX6_leastStreet 59 = .ok (.if_icmp .ge 34, 3) := by decide +kernel
theorem dX6_leastStreet_62 : decode cX6_leastStreet 62 = .ok (.iload 5, 2) := by decide +kernel
theorem dX6_leastStreet_64 : decode cX6_leastStreet 64 = .ok (.aload_n 0, 1) := by decide +kernel
theorem dX6_leastStreet_65 : decode cX6_leastStreet 65 = .ok (.getfield 18, 3) := by decide +kernel
theorem dX6_leastStreet_68 : decode cX6_leastStreet 68 = .ok (.iload 6, 2) := by decide +kernel
theorem dX6_leastStreet_70 : decode cX6_leastStreet 70 = .ok (.aload_n 0, 1) := by decide +kernel
theorem dX6_leastStreet_71 : decode cX6_leastStreet 71 = .ok (.getfield 12, 3) := by decide +kernel
theorem dX6_leastStreet_74 : decode cX6_leastStreet 74 = .ok (.getfield 49, 3) := by decide +kernel
theorem dX6_leastStreet_77 : decode cX6_leastStreet 77 = .ok (.iload 4, 2) := by decide +kernel
theorem dX6_leastStreet_79 : decode cX6_leastStreet 79 = .ok (.iload_n 1, 1) := by decide +kernel
theorem dX6_leastStreet_80 : decode cX6_leastStreet 80 = .ok (.invokevirtual 126, 3) := by decide +kernel
theorem dX6_leastStreet_83 : decode cX6_leastStreet 83 = .ok (.iadd, 1) := by decide +kernel
theorem dX6_leastStreet_84 : decode cX6_leastStreet 84 = .ok (.iaload, 1) := by decide +kernel
theorem dX6_leastStreet_85 : decode cX6_leastStreet 85 = .ok (.iadd, 1) := by decide +kernel
theorem dX6_leastStreet_86 : decode cX6_leastStreet 86 = .ok (.iload_n 3, 1) := by decide +kernel
theorem dX6_leastStreet_87 : decode cX6_leastStreet 87 = .ok (.if_icmp .ne 6, 3) := by decide +kernel
theorem dX6_leastStreet_90 : decode cX6_leastStreet 90 = .ok (.iload 4, 2) := by decide +kernel
theorem dX6_leastStreet_92 : decode cX6_leastStreet 92 = .ok (.ireturn, 1) := by decide +kernel
theorem dX6_leastStreet_93 : decode cX6_leastStreet 93 = .ok (.iinc 4 1, 3) := by decide +kernel
theorem dX6_leastStreet_96 : decode cX6_leastStreet 96 = .ok (.goto (-81), 3) := by decide +kernel
theorem dX6_leastStreet_99 : decode cX6_leastStreet 99 = .ok (.bipush (-9), 2) := by decide +kernel
theorem dX6_leastStreet_101 : decode cX6_leastStreet 101 = .ok (.ireturn, 1) := by decide +kernel
theorem dX9_init_0 : decode cX9_init 0 = .ok (.aload_n 0, 1) := by decide +kernel
theorem dX9_init_1 : decode cX9_init 1 = .ok (.invokespecial 3, 3) := by decide +kernel
theorem dX9_init_4 : decode cX9_init 4 = .ok (.aload_n 0, 1) := by decide +kernel
theorem dX9_init_5 : decode cX9_init 5 = .ok (.new 9, 3) := by decide +kernel
theorem dX9_init_8 : decode cX9_init 8 = .ok (.dup, 1) := by decide +kernel
theorem dX9_init_9 : decode cX9_init 9 = .ok (.invokespecial 11, 3) := by decide +kernel
theorem dX9_init_12 : decode cX9_init 12 = .ok (.putfield 12, 3) := by decide +kernel
theorem dX9_init_15 : decode cX9_init 15 = .ok (.aload_n 0, 1) := by decide +kernel
theorem dX9_init_16 : decode cX9_init 16 = .ok (.new 9, 3) := by decide +kernel
theorem dX9_init_19 : decode cX9_init 19 = .ok (.dup, 1) := by decide +kernel
theorem dX9_init_20 : decode cX9_init 20 = .ok (.invokespecial 11, 3) := by decide +kernel
theorem dX9_init_23 : decode cX9_init 23 = .ok (.putfield 16, 3) := by decide +kernel
theorem dX9_init_26 : decode cX9_init 26 = .ok (.aload_n 0, 1) := by decide +kernel
theorem dX9_init_27 : decode cX9_init 27 = .ok (.new 9, 3) := by decide +kernel
theorem dX9_init_30 : decode cX9_init 30 = .ok (.dup, 1) := by decide +kernel
theorem dX9_init_31 : decode cX9_init 31 = .ok (.invokespecial 11, 3) := by decide +kernel
theorem dX9_init_34 : decode cX9_init 34 = .ok (.putfield 19, 3) := by decide +kernel
theorem dX9_init_37 : decode cX9_init 37 = .ok (.aload_n 0, 1) := by decide +kernel
theorem dX9_init_38 : decode cX9_init 38 = .ok (.iconst 0, 1) := by decide +kernel
theorem dX9_init_39 : decode cX9_init 39 = .ok (.putfield 22, 3) := by decide +kernel
theorem dX9_init_42 : decode cX9_init 42 = .ok (.aload_n 0, 1) := by decide +kernel
theorem dX9_init_43 : decode cX9_init 43 = .ok (.new 26, 3) := by decide +kernel
theorem dX9_init_46 : decode cX9_init 46 = .ok (.dup, 1) := by decide +kernel
theorem dX9_init_47 : decode cX9_init 47 = .ok (.invokespecial 28, 3) := by decide +kernel
theorem dX9_init_50 : decode cX9_init 50 = .ok (.putfield 29, 3) := by decide +kernel
theorem dX9_init_53 : decode cX9_init 53 = .ok (.aload_n 0, 1) := by decide +kernel
theorem dX9_init_54 : decode cX9_init 54 = .ok (.new 33, 3) := by decide +kernel
theorem dX9_init_57 : decode cX9_init 57 = .ok (.dup, 1) := by decide +kernel
theorem dX9_init_58 : decode cX9_init 58 = .ok (.invokespecial 35, 3) := by decide +kernel
theorem dX9_init_61 : decode cX9_init 61 = .ok (.putfield 36, 3) := by decide +kernel
theorem dX9_init_64 : decode cX9_init 64 = .ok (.aload_n 0, 1) := by decide +kernel
theorem dX9_init_65 : decode cX9_init 65 = .ok (.new 40, 3) := by decide +kernel
theorem dX9_init_68 : decode cX9_init 68 = .ok (.dup, 1) := by decide +kernel
theorem dX9_init_69 : decode cX9_init 69 = .ok (.invokespecial 42, 3) := by decide +kernel
theorem dX9_init_72 : decode cX9_init 72 = .ok (.putfield 43, 3) := by decide +kernel
theorem dX9_init_75 : decode cX9_init 75 = .ok (.aload_n 0, 1) := by decide +kernel
theorem dX9_init_76 : decode cX9_init 76 = .ok (.new 47, 3) := by decide +kernel
theorem dX9_init_79 : decode cX9_init 79 = .ok (.dup, 1) := by decide +kernel
theorem dX9_init_80 : decode cX9_init 80 = .ok (.invokespecial 49, 3) := by decide +kernel
theorem dX9_init_83 : decode cX9_init 83 = .ok (.putfield 50, 3) := by decide +kernel
theorem dX9_init_86 : decode cX9_init 86 = .ok (.aload_n 0, 1) := by decide +kernel
theorem dX9_init_87 : decode cX9_init 87 = .ok (.new 54, 3) := by decide +kernel
theorem dX9_init_90 : decode cX9_init 90 = .ok (.dup, 1) := by decide +kernel
theorem dX9_init_91 : decode cX9_init 91 = .ok (.invokespecial 56, 3) := by decide +kernel
theorem dX9_init_94 : decode cX9_init 94 = .ok (.putfield 57, 3) := by decide +kernel
theorem dX9_init_97 : decode cX9_init 97 = .ok (.aload_n 0, 1) := by decide +kernel
theorem dX9_init_98 : decode cX9_init 98 = .ok (.new 61, 3) := by decide +kernel
theorem dX9_init_101 : decode cX9_init 101 = .ok (.dup, 1) := by decide +kernel
theorem dX9_init_102 : decode cX9_init 102 = .ok (.invokespecial 63, 3) := by decide +kernel
theorem dX9_init_105 : decode cX9_init 105 = .ok (.putfield 64, 3) := by decide +kernel
theorem dX9_init_108 : decode cX9_init 108 = .ok (.aload_n 0, 1) := by decide +kernel
theorem dX9_init_109 : decode cX9_init 109 = .ok (.new 68, 3) := by decide +kernel
theorem dX9_init_112 : decode cX9_init 112 = .ok (.dup, 1) := by decide +kernel
theorem dX9_init_113 : decode cX9_init 113 = .ok (.invokespecial 70, 3) := by decide +kernel
theorem dX9_init_116 : decode cX9_init 116 = .ok (.putfield 71, 3) := by decide +kernel
theorem dX9_init_119 : decode cX9_init 119 = .ok (.aload_n 0, 1) := by decide +kernel
theorem dX9_init_120 : decode cX9_init 120 = .ok (.bipush 32, 2) := by decide +kernel
theorem dX9_init_122 : decode cX9_init 122 = .ok (.newarray .int, 2) := by decide +kernel
theorem dX9_init_124 : decode cX9_init 124 = .ok (.putfield 75, 3) := by decide +kernel
theorem dX9_init_127 : decode cX9_init 127 = .ok (.aload_n 0, 1) := by decide +kernel
theorem dX9_init_128 : decode cX9_init 128 = .ok (.iconst 0, 1) := by decide +kernel
theorem dX9_init_129 : decode cX9_init 129 = .ok (.putfield 79, 3) := by decide +kernel
theorem dX9_init_132 : decode cX9_init 132 = .ok (.aload_n 0, 1) := by decide +kernel
theorem dX9_init_133 : decode cX9_init 133 = .ok (.bipush 7, 2) := by decide +kernel
theorem dX9_init_135 : decode cX9_init 135 = .ok (.newarray .int, 2) := by decide +kernel
theorem dX9_init_137 : decode cX9_init 137 = .ok (.putfield 83, 3) := by decide +kernel
theorem dX9_init_140 : decode cX9_init 140 = .ok (.return_, 1) := by decide +kernel
theorem dX9_letter_0 : decode cX9_letter 0 = .ok (.iload_n 1, 1) := by decide +kernel
theorem dX9_letter_1 : decode cX9_letter 1 = .ok (.ifCond .ge 10, 3) := by decide +kernel
theorem dX9_letter_4 : decode cX9_letter 4 = .ok (.aload_n 0, 1) := by decide +kernel
theorem dX9_letter_5 : decode cX9_letter 5 = .ok (.bipush (-4), 2) := by decide +kernel
theorem dX9_letter_7 : decode cX9_letter 7 = .ok (.invokevirtual 86, 3) := by decide +kernel
theorem dX9_letter_10 : decode cX9_letter 10 = .ok (.ireturn, 1) := by decide +kernel
theorem dX9_letter_11 : decode cX9_letter 11 = .ok (.iload_n 1, 1) := by decide +kernel
theorem dX9_letter_12 : decode cX9_letter 12 = .ok (.sipush 255, 3) := by decide +kernel
theorem dX9_letter_15 : decode cX9_letter 15 = .ok (.if_icmp .gt 15, 3) := by decide +kernel
theorem dX9_letter_18 : decode cX9_letter 18 = .ok (.aload_n 0, 1) := by decide +kernel
theorem dX9_letter_19 : decode cX9_letter 19 = .ok (.getfield 71, 3) := by decide +kernel
theorem dX9_letter_22 : decode cX9_letter 22 = .ok (.getfield 90, 3) := by decide +kernel
theorem dX9_letter_25 : decode cX9_letter 25 = .ok (.bipush 96, 2) := by decide +kernel
theorem dX9_letter_27 : decode cX9_letter 27 = .ok (.if_icmp .lt 10, 3) := by decide +kernel
theorem dX9_letter_30 : decode cX9_letter 30 = .ok (.aload_n 0, 1) := by decide +kernel
theorem dX9_letter_31 : decode cX9_letter 31 = .ok (.bipush (-6), 2) := by decide +kernel
theorem dX9_letter_33 : decode cX9_letter 33 = .ok (.invokevirtual 86, 3) := by decide +kernel
theorem dX9_letter_36 : decode cX9_letter 36 = .ok (.ireturn, 1) := by decide +kernel
theorem dX9_letter_37 : decode cX9_letter 37 = .ok (.aload_n 0, 1) := by decide +kernel
theorem dX9_letter_38 : decode cX9_letter 38 = .ok (.getfield 71, 3) := by decide +kernel
theorem dX9_letter_41 : decode cX9_letter 41 = .ok (.iload_n 1, 1) := by decide +kernel
theorem dX9_letter_42 : decode cX9_letter 42 = .ok (.invokevirtual 93, 3) := by decide +kernel
theorem dX9_letter_45 : decode cX9_letter 45 = .ok (.aload_n 0, 1) := by decide +kernel
theorem dX9_letter_46 : decode cX9_letter 46 = .ok (.getfield 71, 3) := by decide +kernel
theorem dX9_letter_49 : decode cX9_letter 49 = .ok (.getfield 90, 3) := by decide +kernel
theorem dX9_letter_52 : decode cX9_letter 52 = .ok (.ireturn, 1) := by decide +kernel
theorem dX9_map_0 : decode cX9_map 0 = .ok (.aload_n 0, 1) := by decide +kernel
theorem dX9_map_1 : decode cX9_map 1 = .ok (.invokevirtual 97, 3) := by decide +kernel
theorem dX9_map_4 : decode cX9_map 4 = .ok (.istore_n 1, 1) := by decide +kernel
theorem dX9_map_5 : decode cX9_map 5 = .ok (.aload_n 0, 1) := by decide +kernel
theorem dX9_map_6 : decode cX9_map 6 = .ok (.getfield 71, 3) := by decide +kernel
theorem dX9_map_9 : decode cX9_map 9 = .ok (.invokevirtual 101, 3) := by decide +kernel
theorem dX9_map_12 : decode cX9_map 12 = .ok (.iload_n 1, 1) := by decide +kernel
theorem dX9_map_13 : decode cX9_map 13 = .ok (.ireturn, 1) := by decide +kernel
theorem dX9_readMap_0 : decode cX9_readMap 0 = .ok (.aload_n 0, 1) := by decide +kernel
theorem dX9_readMap_1 : decode cX9_readMap 1 = .ok (.getfield 71, 3) := by decide +kernel
theorem dX9_readMap_4 : decode cX9_readMap 4 = .ok (.invokevirtual 104, 3) := by decide +kernel
theorem dX9_readMap_7 : decode cX9_readMap 7 = .ok (.istore_n 1, 1) := by decide +kernel
theorem dX9_readMap_8 : decode cX9_readMap 8 = .ok (.iload_n 1, 1) := by decide +kernel
theorem dX9_readMap_9 : decode cX9_readMap 9 = .ok (.ifCond .lt 9, 3) := by decide +kernel
theorem dX9_readMap_12 : decode cX9_readMap 12 = .ok (.sipush (-1000), 3) := by decide +kernel
theorem dX9_readMap_15 : decode cX9_readMap 15 = .ok (.iload_n 1, 1) := by decide +kernel
theorem dX9_readMap_16 : decode cX9_readMap 16 = .ok (.isub, 1) := by decide +kernel
theorem dX9_readMap_17 : decode cX9_readMap 17 = .ok (.ireturn, 1) := by decide +kernel
theorem dX9_readMap_18 : decode cX9_readMap 18 = .ok (.aload_n 0, 1) := by decide +kernel
theorem dX9_readMap_19 : decode cX9_readMap 19 = .ok (.getfield 16, 3) := by decide +kernel
theorem dX9_readMap_22 : decode cX9_readMap 22 = .ok (.aload_n 0, 1) := by decide +kernel
theorem dX9_readMap_23 : decode cX9_readMap 23 = .ok (.getfield 12, 3) := by decide +kernel
theorem dX9_readMap_26 : decode cX9_readMap 26 = .ok (.invokevirtual 107, 3) := by decide +kernel
theorem dX9_readMap_29 : decode cX9_readMap 29 = .ok (.aload_n 0, 1) := by decide +kernel
theorem dX9_readMap_30 : decode cX9_readMap 30 = .ok (.getfield 71, 3) := by decide +kernel
theorem dX9_readMap_33 : decode cX9_readMap 33 = .ok (.aload_n 0, 1) := by decide +kernel
theorem dX9_readMap_34 : decode cX9_readMap 34 = .ok (.getfield 16, 3) := by decide +kernel
theorem dX9_readMap_37 : decode cX9_readMap 37 = .ok (.invokevirtual 111, 3) := by decide +kernel
theorem dX9_readMap_40 : decode cX9_readMap 40 = .ok (.istore_n 1, 1) := by decide +kernel
theorem dX9_readMap_41 : decode cX9_readMap 41 = .ok (.iload_n 1, 1) := by decide +kernel
theorem dX9_readMap_42 : decode cX9_readMap 42 = .ok (.ifCond .lt 9, 3) := by decide +kernel
theorem dX9_readMap_45 : decode cX9_readMap 45 = .ok (.sipush (-2000), 3) := by decide +kernel
theorem dX9_readMap_48 : decode cX9_readMap 48 = .ok (.iload_n 1, 1) := by decide +kernel
theorem dX9_readMap_49 : decode cX9_readMap 49 = .ok (.isub, 1) := by decide +kernel
theorem dX9_readMap_50 : decode cX9_readMap 50 = .ok (.ireturn, 1) := by decide +kernel
theorem dX9_readMap_51 : decode cX9_readMap 51 = .ok (.aload_n 0, 1) := by decide +kernel
theorem dX9_readMap_52 : decode cX9_readMap 52 = .ok (.getfield 12, 3) := by decide +kernel
theorem dX9_readMap_55 : decode cX9_readMap 55 = .ok (.aload_n 0, 1) := by decide +kernel
theorem dX9_readMap_56 : decode cX9_readMap 56 = .ok (.getfield 16, 3) := by decide +kernel
theorem dX9_readMap_59 : decode cX9_readMap 59 = .ok (.invokevirtual 107, 3) := by decide +kernel
theorem dX9_readMap_62 : decode cX9_readMap 62 = .ok (.aload_n 0, 1) := by decide +kernel
theorem dX9_readMap_63 : decode cX9_readMap 63 = .ok (.getfield 71, 3) := by decide +kernel
theorem dX9_readMap_66 : decode cX9_readMap 66 = .ok (.getfield 115, 3) := by decide +kernel
theorem dX9_readMap_69 : decode cX9_readMap 69 = .ok (.ireturn, 1) := by decide +kernel
theorem dX9_streets_0 : decode cX9_streets 0 = .ok (.iload_n 1, 1) := by decide +kernel
theorem dX9_streets_1 : decode cX9_streets 1 = .ok (.invokestatic 118, 3) := by decide +kernel
theorem dX9_streets_4 : decode cX9_streets 4 = .ok (.ifCond .eq 10, 3) := by decide +kernel
theorem dX9_streets_7 : decode cX9_streets 7 = .ok (.iload_n 2, 1) := by decide +kernel
theorem dX9_streets_8 : decode cX9_streets 8 = .ok (.invokestatic 118, 3) := by decide +kernel
theorem dX9_streets_11 : decode cX9_streets 11 = .ok (.ifCond .ne 9, 3) := by decide +kernel
theorem dX9_streets_14 : decode cX9_streets 14 = .ok (.aload_n 0, 1) := by decide +kernel
theorem dX9_streets_15 : decode cX9_streets 15 = .ok (.iconst (-1), 1) := by decide +kernel
theorem dX9_streets_16 : decode cX9_streets 16 = .ok (.invokevirtual 86, 3) := by decide +kernel
theorem dX9_streets_19 : decode cX9_streets 19 = .ok (.ireturn, 1) := by decide +kernel
theorem dX9_streets_20 : decode cX9_streets 20 = .ok (.iload_n 1, 1) := by decide +kernel
