theorem dX9_on_7 : decode cX9_on 7 = .ok (.aload_n 0, 1) := by decide +kernel
theorem dX9_on_8 : decode cX9_on 8 = .ok (.bipush (-3), 2) := by decide +kernel
theorem dX9_on_10 : decode cX9_on 10 = .ok (.invokevirtual 86, 3) := by decide +kernel
theorem dX9_on_13 : decode cX9_on 13 = .ok (.ireturn, 1) := by decide +kernel
theorem dX9_on_14 : decode cX9_on 14 = .ok (.aload_n 0, 1) := by decide +kernel
theorem dX9_on_15 : decode cX9_on 15 = .ok (.getfield 12, 3) := by decide +kernel
theorem dX9_on_18 : decode cX9_on 18 = .ok (.aload_n 0, 1) := by decide +kernel
theorem dX9_on_19 : decode cX9_on 19 = .ok (.getfield 19, 3) := by decide +kernel
theorem dX9_on_22 : decode cX9_on 22 = .ok (.invokevirtual 107, 3) := by decide +kernel
theorem dX9_on_25 : decode cX9_on 25 = .ok (.aload_n 0, 1) := by decide +kernel
theorem dX9_on_26 : decode cX9_on 26 = .ok (.getfield 12, 3) := by decide +kernel
theorem dX9_on_29 : decode cX9_on 29 = .ok (.getfield 122, 3) := by decide +kernel
theorem dX9_on_32 : decode cX9_on 32 = .ok (.ireturn, 1) := by decide +kernel
theorem dX9_count_0 : decode cX9_count 0 = .ok (.iload_n 1, 1) := by decide +kernel
theorem dX9_count_1 : decode cX9_count 1 = .ok (.tableswitch 96 0 6 #[43, 51, 59, 67, 75, 83, 88], 43) := by decide +kernel
theorem dX9_count_44 : decode cX9_count 44 = .ok (.aload_n 0, 1) := by decide +kernel
theorem dX9_count_45 : decode cX9_count 45 = .ok (.getfield 12, 3) := by decide +kernel
theorem dX9_count_48 : decode cX9_count 48 = .ok (.getfield 122, 3) := by decide +kernel
theorem dX9_count_51 : decode cX9_count 51 = .ok (.ireturn, 1) := by decide +kernel
theorem dX9_count_52 : decode cX9_count 52 = .ok (.aload_n 0, 1) := by decide +kernel
theorem dX9_count_53 : decode cX9_count 53 = .ok (.getfield 12, 3) := by decide +kernel
theorem dX9_count_56 : decode cX9_count 56 = .ok (.invokevirtual 317, 3) := by decide +kernel
theorem dX9_count_59 : decode cX9_count 59 = .ok (.ireturn, 1) := by decide +kernel
theorem dX9_count_60 : decode cX9_count 60 = .ok (.aload_n 0, 1) := by decide +kernel
theorem dX9_count_61 : decode cX9_count 61 = .ok (.getfield 12, 3) := by decide +kernel
theorem dX9_count_64 : decode cX9_count 64 = .ok (.invokevirtual 350, 3) := by decide +kernel
theorem dX9_count_67 : decode cX9_count 67 = .ok (.ireturn, 1) := by decide +kernel
theorem dX9_count_68 : decode cX9_count 68 = .ok (.aload_n 0, 1) := by decide +kernel
theorem dX9_count_69 : decode cX9_count 69 = .ok (.getfield 12, 3) := by decide +kernel
theorem dX9_count_72 : decode cX9_count 72 = .ok (.invokevirtual 353, 3) := by decide +kernel
theorem dX9_count_75 : decode cX9_count 75 = .ok (.ireturn, 1) := by decide +kernel
theorem dX9_count_76 : decode cX9_count 76 = .ok (.aload_n 0, 1) := by decide +kernel
theorem dX9_count_77 : decode cX9_count 77 = .ok (.getfield 12, 3) := by decide +kernel
theorem dX9_count_80 : decode cX9_count 80 = .ok (.getfield 145, 3) := by decide +kernel
theorem dX9_count_83 : decode cX9_count 83 = .ok (.ireturn, 1) := by decide +kernel
theorem dX9_count_84 : decode cX9_count 84 = .ok (.aload_n 0, 1) := by decide +kernel
theorem dX9_count_85 : decode cX9_count 85 = .ok (.getfield 79, 3) := by decide +kernel
theorem dX9_count_88 : decode cX9_count 88 = .ok (.ireturn, 1) := by decide +kernel
theorem dX9_count_89 : decode cX9_count 89 = .ok (.aload_n 0, 1) := by decide +kernel
theorem dX9_count_90 : decode cX9_count 90 = .ok (.getfield 71, 3) := by decide +kernel
theorem dX9_count_93 : decode cX9_count 93 = .ok (.getfield 90, 3) := by decide +kernel
theorem dX9_count_96 : decode cX9_count 96 = .ok (.ireturn, 1) := by decide +kernel
theorem dX9_count_97 : decode cX9_count 97 = .ok (.iload_n 1, 1) := by decide +kernel
theorem dX9_count_98 : decode cX9_count 98 = .ok (.bipush 11, 2) := by decide +kernel
theorem dX9_count_100 : decode cX9_count 100 = .ok (.if_icmp .lt 21, 3) := by decide +kernel
theorem dX9_count_103 : decode cX9_count 103 = .ok (.iload_n 1, 1) := by decide +kernel
theorem dX9_count_104 : decode cX9_count 104 = .ok (.bipush 16, 2) := by decide +kernel
theorem dX9_count_106 : decode cX9_count 106 = .ok (.if_icmp .gt 15, 3) := by decide +kernel
theorem dX9_count_109 : decode cX9_count 109 = .ok (.aload_n 0, 1) := by decide +kernel
theorem dX9_count_110 : decode cX9_count 110 = .ok (.getfield 83, 3) := by decide +kernel
theorem dX9_count_113 : decode cX9_count 113 = .ok (.iload_n 1, 1) := by decide +kernel
theorem dX9_count_114 : decode cX9_count 114 = .ok (.bipush 10, 2) := by decide +kernel
theorem dX9_count_116 : decode cX9_count 116 = .ok (.isub, 1) := by decide +kernel
theorem dX9_count_117 : decode cX9_count 117 = .ok (.iaload, 1) := by decide +kernel
theorem dX9_count_118 : decode cX9_count 118 = .ok (.goto 5, 3) := by decide +kernel
theorem dX9_count_121 : decode cX9_count 121 = .ok (.bipush (-9), 2) := by decide +kernel
theorem dX9_count_123 : decode cX9_count 123 = .ok (.ireturn, 1) := by decide +kernel
theorem dX9_refuse_0 : decode cX9_refuse 0 = .ok (.iload_n 1, 1) := by decide +kernel
theorem dX9_refuse_1 : decode cX9_refuse 1 = .ok (.ineg, 1) := by decide +kernel
theorem dX9_refuse_2 : decode cX9_refuse 2 = .ok (.istore_n 2, 1) := by decide +kernel
theorem dX9_refuse_3 : decode cX9_refuse 3 = .ok (.iload_n 2, 1) := by decide +kernel
theorem dX9_refuse_4 : decode cX9_refuse 4 = .ok (.ifCond .le 22, 3) := by decide +kernel
theorem dX9_refuse_7 : decode cX9_refuse 7 = .ok (.iload_n 2, 1) := by decide +kernel
theorem dX9_refuse_8 : decode cX9_refuse 8 = .ok (.aload_n 0, 1) := by decide +kernel
theorem dX9_refuse_9 : decode cX9_refuse 9 = .ok (.getfield 83, 3) := by decide +kernel
theorem dX9_refuse_12 : decode cX9_refuse 12 = .ok (.arraylength, 1) := by decide +kernel
theorem dX9_refuse_13 : decode cX9_refuse 13 = .ok (.if_icmp .ge 13, 3) := by decide +kernel
theorem dX9_refuse_16 : decode cX9_refuse 16 = .ok (.aload_n 0, 1) := by decide +kernel
theorem dX9_refuse_17 : decode cX9_refuse 17 = .ok (.getfield 83, 3) := by decide +kernel
theorem dX9_refuse_20 : decode cX9_refuse 20 = .ok (.iload_n 2, 1) := by decide +kernel
theorem dX9_refuse_21 : decode cX9_refuse 21 = .ok (.dup2, 1) := by decide +kernel
theorem dX9_refuse_22 : decode cX9_refuse 22 = .ok (.iaload, 1) := by decide +kernel
theorem dX9_refuse_23 : decode cX9_refuse 23 = .ok (.iconst 1, 1) := by decide +kernel
theorem dX9_refuse_24 : decode cX9_refuse 24 = .ok (.iadd, 1) := by decide +kernel
theorem dX9_refuse_25 : decode cX9_refuse 25 = .ok (.iastore, 1) := by decide +kernel
theorem dX9_refuse_26 : decode cX9_refuse 26 = .ok (.iload_n 1, 1) := by decide +kernel
theorem dX9_refuse_27 : decode cX9_refuse 27 = .ok (.ireturn, 1) := by decide +kernel
theorem dX9_orNone_0 : decode cX9_orNone 0 = .ok (.iload_n 0, 1) := by decide +kernel
theorem dX9_orNone_1 : decode cX9_orNone 1 = .ok (.ldc 180, 2) := by decide +kernel
theorem dX9_orNone_3 : decode cX9_orNone 3 = .ok (.if_icmp .lt 8, 3) := by decide +kernel
theorem dX9_orNone_6 : decode cX9_orNone 6 = .ok (.bipush (-9), 2) := by decide +kernel
theorem dX9_orNone_8 : decode cX9_orNone 8 = .ok (.goto 4, 3) := by decide +kernel
theorem dX9_orNone_11 : decode cX9_orNone 11 = .ok (.iload_n 0, 1) := by decide +kernel
theorem dX9_orNone_12 : decode cX9_orNone 12 = .ok (.ireturn, 1) := by decide +kernel
theorem dX9_isCorner_0 : decode cX9_isCorner 0 = .ok (.iload_n 0, 1) := by decide +kernel
theorem dX9_isCorner_1 : decode cX9_isCorner 1 = .ok (.ifCond .lt 13, 3) := by decide +kernel
theorem dX9_isCorner_4 : decode cX9_isCorner 4 = .ok (.iload_n 0, 1) := by decide +kernel
theorem dX9_isCorner_5 : decode cX9_isCorner 5 = .ok (.bipush 6, 2) := by decide +kernel
theorem dX9_isCorner_7 : decode cX9_isCorner 7 = .ok (.if_icmp .ge 7, 3) := by decide +kernel
theorem dX9_isCorner_10 : decode cX9_isCorner 10 = .ok (.iconst 1, 1) := by decide +kernel
theorem dX9_isCorner_11 : decode cX9_isCorner 11 = .ok (.goto 4, 3) := by decide +kernel
theorem dX9_isCorner_14 : decode cX9_isCorner 14 = .ok (.iconst 0, 1) := by decide +kernel
theorem dX9_isCorner_15 : decode cX9_isCorner 15 = .ok (.ireturn, 1) := by decide +kernel
theorem dX10_init_0 : decode cX10_init 0 = .ok (.aload_n 0, 1) := by decide +kernel
theorem dX10_init_1 : decode cX10_init 1 = .ok (.invokespecial 1, 3) := by decide +kernel
theorem dX10_init_4 : decode cX10_init 4 = .ok (.aload_n 0, 1) := by decide +kernel
theorem dX10_init_5 : decode cX10_init 5 = .ok (.bipush 50, 2) := by decide +kernel
theorem dX10_init_7 : decode cX10_init 7 = .ok (.newarray .int, 2) := by decide +kernel
theorem dX10_init_9 : decode cX10_init 9 = .ok (.putfield 9, 3) := by decide +kernel
theorem dX10_init_12 : decode cX10_init 12 = .ok (.aload_n 0, 1) := by decide +kernel
theorem dX10_init_13 : decode cX10_init 13 = .ok (.bipush 50, 2) := by decide +kernel
theorem dX10_init_15 : decode cX10_init 15 = .ok (.newarray .int, 2) := by decide +kernel
theorem dX10_init_17 : decode cX10_init 17 = .ok (.putfield 13, 3) := by decide +kernel
theorem dX10_init_20 : decode cX10_init 20 = .ok (.aload_n 0, 1) := by decide +kernel
theorem dX10_init_21 : decode cX10_init 21 = .ok (.bipush 50, 2) := by decide +kernel
theorem dX10_init_23 : decode cX10_init 23 = .ok (.newarray .int, 2) := by decide +kernel
theorem dX10_init_25 : decode cX10_init 25 = .ok (.putfield 16, 3) := by decide +kernel
theorem dX10_init_28 : decode cX10_init 28 = .ok (.aload_n 0, 1) := by decide +kernel
theorem dX10_init_29 : decode cX10_init 29 = .ok (.bipush 7, 2) := by decide +kernel
theorem dX10_init_31 : decode cX10_init 31 = .ok (.newarray .int, 2) := by decide +kernel
theorem dX10_init_33 : decode cX10_init 33 = .ok (.putfield 19, 3) := by decide +kernel
theorem dX10_init_36 : decode cX10_init 36 = .ok (.aload_n 0, 1) := by decide +kernel
theorem dX10_init_37 : decode cX10_init 37 = .ok (.bipush 32, 2) := by decide +kernel
theorem dX10_init_39 : decode cX10_init 39 = .ok (.newarray .int, 2) := by decide +kernel
theorem dX10_init_41 : decode cX10_init 41 = .ok (.putfield 22, 3) := by decide +kernel
theorem dX10_init_44 : decode cX10_init 44 = .ok (.aload_n 0, 1) := by decide +kernel
theorem dX10_init_45 : decode cX10_init 45 = .ok (.bipush 96, 2) := by decide +kernel
theorem dX10_init_47 : decode cX10_init 47 = .ok (.newarray .int, 2) := by decide +kernel
theorem dX10_init_49 : decode cX10_init 49 = .ok (.putfield 25, 3) := by decide +kernel
theorem dX10_init_52 : decode cX10_init 52 = .ok (.aload_n 0, 1) := by decide +kernel
theorem dX10_init_53 : decode cX10_init 53 = .ok (.bipush 36, 2) := by decide +kernel
theorem dX10_init_55 : decode cX10_init 55 = .ok (.newarray .int, 2) := by decide +kernel
theorem dX10_init_57 : decode cX10_init 57 = .ok (.putfield 28, 3) := by decide +kernel
theorem dX10_init_60 : decode cX10_init 60 = .ok (.aload_n 0, 1) := by decide +kernel
theorem dX10_init_61 : decode cX10_init 61 = .ok (.sipush 1536, 3) := by decide +kernel
theorem dX10_init_64 : decode cX10_init 64 = .ok (.newarray .int, 2) := by decide +kernel
theorem dX10_init_66 : decode cX10_init 66 = .ok (.putfield 31, 3) := by decide +kernel
theorem dX10_init_69 : decode cX10_init 69 = .ok (.aload_n 0, 1) := by decide +kernel
theorem dX10_init_70 : decode cX10_init 70 = .ok (.bipush 64, 2) := by decide +kernel
theorem dX10_init_72 : decode cX10_init 72 = .ok (.newarray .int, 2) := by decide +kernel
theorem dX10_init_74 : decode cX10_init 74 = .ok (.putfield 34, 3) := by decide +kernel
theorem dX10_init_77 : decode cX10_init 77 = .ok (.aload_n 0, 1) := by decide +kernel
theorem dX10_init_78 : decode cX10_init 78 = .ok (.bipush 6, 2) := by decide +kernel
theorem dX10_init_80 : decode cX10_init 80 = .ok (.newarray .int, 2) := by decide +kernel
theorem dX10_init_82 : decode cX10_init 82 = .ok (.putfield 37, 3) := by decide +kernel
theorem dX10_init_85 : decode cX10_init 85 = .ok (.aload_n 0, 1) := by decide +kernel
theorem dX10_init_86 : decode cX10_init 86 = .ok (.bipush 8, 2) := by decide +kernel
theorem dX10_init_88 : decode cX10_init 88 = .ok (.newarray .int, 2) := by decide +kernel
theorem dX10_init_90 : decode cX10_init 90 = .ok (.putfield 40, 3) := by decide +kernel
theorem dX10_init_93 : decode cX10_init 93 = .ok (.aload_n 0, 1) := by decide +kernel
theorem dX10_init_94 : decode cX10_init 94 = .ok (.bipush 26, 2) := by decide +kernel
theorem dX10_init_96 : decode cX10_init 96 = .ok (.newarray .int, 2) := by decide +kernel
theorem dX10_init_98 : decode cX10_init 98 = .ok (.putfield 43, 3) := by decide +kernel
theorem dX10_init_101 : decode cX10_init 101 = .ok (.aload_n 0, 1) := by decide +kernel
theorem dX10_init_102 : decode cX10_init 102 = .ok (.bipush 26, 2) := by decide +kernel
theorem dX10_init_104 : decode cX10_init 104 = .ok (.newarray .int, 2) := by decide +kernel
theorem dX10_init_106 : decode cX10_init 106 = .ok (.putfield 46, 3) := by decide +kernel
theorem dX10_init_109 : decode cX10_init 109 = .ok (.aload_n 0, 1) := by decide +kernel
theorem dX10_init_110 : decode cX10_init 110 = .ok (.bipush 6, 2) := by decide +kernel
theorem dX10_init_112 : decode cX10_init 112 = .ok (.newarray .int, 2) := by decide +kernel
theorem dX10_init_114 : decode cX10_init 114 = .ok (.putfield 49, 3) := by decide +kernel
theorem dX10_init_117 : decode cX10_init 117 = .ok (.aload_n 0, 1) := by decide +kernel
theorem dX10_init_118 : decode cX10_init 118 = .ok (.sipush 256, 3) := by decide +kernel
theorem dX10_init_121 : decode cX10_init 121 = .ok (.newarray .int, 2) := by decide +kernel
theorem dX10_init_123 : decode cX10_init 123 = .ok (.putfield 52, 3) := by decide +kernel
theorem dX10_init_126 : decode cX10_init 126 = .ok (.aload_n 0, 1) := by decide +kernel
theorem dX10_init_127 : decode cX10_init 127 = .ok (.iconst 3, 1) := by decide +kernel
theorem dX10_init_128 : decode cX10_init 128 = .ok (.newarray .int, 2) := by decide +kernel
theorem dX10_init_130 : decode cX10_init 130 = .ok (.putfield 55, 3) := by decide +kernel
theorem dX10_init_133 : decode cX10_init 133 = .ok (.aload_n 0, 1) := by decide +kernel
theorem dX10_init_134 : decode cX10_init 134 = .ok (.bipush 8, 2) := by decide +kernel
theorem dX10_init_136 : decode cX10_init 136 = .ok (.newarray .int, 2) := by decide +kernel
theorem dX10_init_138 : decode cX10_init 138 = .ok (.putfield 58, 3) := by decide +kernel
theorem dX10_init_141 : decode cX10_init 141 = .ok (.aload_n 0, 1) := by decide +kernel
theorem dX10_init_142 : decode cX10_init 142 = .ok (.bipush 8, 2) := by decide +kernel
theorem dX10_init_144 : decode cX10_init 144 = .ok (.newarray .int, 2) := by decide +kernel
theorem dX10_init_146 : decode cX10_init 146 = .ok (.putfield 61, 3) := by decide +kernel
theorem dX10_init_149 : decode cX10_init 149 = .ok (.return_, 1) := by decide +kernel
theorem dX10_in_0 : decode cX10_in 0 = .ok (.lload_n 0, 1) := by decide +kernel
theorem dX10_in_1 : decode cX10_in 1 = .ok (.lload_n 2, 1) := by decide +kernel
theorem dX10_in_2 : decode cX10_in 2 = .ok (.lcmp, 1) := by decide +kernel
theorem dX10_in_3 : decode cX10_in 3 = .ok (.ifCond .lt 14, 3) := by decide +kernel
theorem dX10_in_6 : decode cX10_in 6 = .ok (.lload_n 0, 1) := by decide +kernel
theorem dX10_in_7 : decode cX10_in 7 = .ok (.lload 4, 2) := by decide +kernel
theorem dX10_in_9 : decode cX10_in 9 = .ok (.lcmp, 1) := by decide +kernel
theorem dX10_in_10 : decode cX10_in 10 = .ok (.ifCond .gt 7, 3) := by decide +kernel
theorem dX10_in_13 : decode cX10_in 13 = .ok (.iconst 1, 1) := by decide +kernel
theorem dX10_in_14 : decode cX10_in 14 = .ok (.goto 4, 3) := by decide +kernel
theorem dX10_in_17 : decode cX10_in 17 = .ok (.iconst 0, 1) := by decide +kernel
theorem dX10_in_18 : decode cX10_in 18 = .ok (.ireturn, 1) := by decide +kernel
theorem dX10_refused_0 : decode cX10_refused 0 = .ok (.aload_n 0, 1) := by decide +kernel
theorem dX10_refused_1 : decode cX10_refused 1 = .ok (.getfield 19, 3) := by decide +kernel
theorem dX10_refused_4 : decode cX10_refused 4 = .ok (.iload_n 1, 1) := by decide +kernel
theorem dX10_refused_5 : decode cX10_refused 5 = .ok (.ineg, 1) := by decide +kernel
theorem dX10_refused_6 : decode cX10_refused 6 = .ok (.dup2, 1) := by decide +kernel
theorem dX10_refused_7 : decode cX10_refused 7 = .ok (.iaload, 1) := by decide +kernel
theorem dX10_refused_8 : decode cX10_refused 8 = .ok (.iconst 1, 1) := by decide +kernel
theorem dX10_refused_9 : decode cX10_refused 9 = .ok (.iadd, 1) := by decide +kernel
theorem dX10_refused_10 : decode cX10_refused 10 = .ok (.iastore, 1) := by decide +kernel
theorem dX10_refused_11 : decode cX10_refused 11 = .ok (.iload_n 1, 1) := by decide +kernel
theorem dX10_refused_12 : decode cX10_refused 12 = .ok (.ireturn, 1) := by decide +kernel
theorem dX10_refusedLong_0 : decode cX10_refusedLong 0 = .ok (.ldc2_w 64, 3) := by decide +kernel
theorem dX10_refusedLong_3 : decode cX10_refusedLong 3 = .ok (.aload_n 0, 1) := by decide +kernel
theorem dX10_refusedLong_4 : decode cX10_refusedLong 4 = .ok (.iload_n 1, 1) := by decide +kernel
theorem dX10_refusedLong_5 : decode cX10_refusedLong 5 = .ok (.invokevirtual 66, 3) := by decide +kernel
theorem dX10_refusedLong_8 : decode cX10_refusedLong 8 = .ok (.i2l, 1) := by decide +kernel
theorem dX10_refusedLong_9 : decode cX10_refusedLong 9 = .ok (.lsub, 1) := by decide +kernel
theorem dX10_refusedLong_10 : decode cX10_refusedLong 10 = .ok (.lreturn, 1) := by decide +kernel
theorem dX10_refusedBelow_0 : decode cX10_refusedBelow 0 = .ok (.ldc 70, 2) := by decide +kernel
theorem dX10_refusedBelow_2 : decode cX10_refusedBelow 2 = .ok (.aload_n 0, 1) := by decide +kernel
theorem dX10_refusedBelow_3 : decode cX10_refusedBelow 3 = .ok (.iload_n 1, 1) := by decide +kernel
theorem dX10_refusedBelow_4 : decode cX10_refusedBelow 4 = .ok (.invokevirtual 66, 3) := by decide +kernel
theorem dX10_refusedBelow_7 : decode cX10_refusedBelow 7 = .ok (.iadd, 1) := by decide +kernel
theorem dX10_refusedBelow_8 : decode cX10_refusedBelow 8 = .ok (.ireturn, 1) := by decide +kernel
theorem dX10_copies_0 : decode cX10_copies 0 = .ok (.iconst 0, 1) := by decide +kernel
theorem dX10_copies_1 : decode cX10_copies 1 = .ok (.istore_n 2, 1) := by decide +kernel
theorem dX10_copies_2 : decode cX10_copies 2 = .ok (.iload_n 2, 1) := by decide +kernel
theorem dX10_copies_3 : decode cX10_copies 3 = .ok (.bipush 50, 2) := by decide +kernel
theorem dX10_copies_5 : decode cX10_copies 5 = .ok (.if_icmp .ge 15, 3) := by decide +kernel
theorem dX10_copies_8 : decode cX10_copies 8 = .ok (.aload_n 1, 1) := by decide +kernel
theorem dX10_copies_9 : decode cX10_copies 9 = .ok (.iload_n 2, 1) := by decide +kernel
theorem dX10_copies_10 : decode cX10_copies 10 = .ok (.aload_n 0, 1) := by decide +kernel
theorem dX10_copies_11 : decode cX10_copies 11 = .ok (.iload_n 2, 1) := by decide +kernel
theorem dX10_copies_12 : decode cX10_copies 12 = .ok (.iaload, 1) := by decide +kernel
theorem dX10_copies_13 : decode cX10_copies 13 = .ok (.iastore, 1) := by decide +kernel
theorem dX10_copies_14 : decode cX10_copies 14 = .ok (.iinc 2 1, 3) := by decide +kernel
theorem dX10_copies_17 : decode cX10_copies 17 = .ok (.goto (-15), 3) := by decide +kernel
theorem dX10_copies_20 : decode cX10_copies 20 = .ok (.return_, 1) := by decide +kernel
theorem dX10_thought_0 : decode cX10_thought 0 = .ok (.aload_n 0, 1) := by decide +kernel
theorem dX10_thought_1 : decode cX10_thought 1 = .ok (.getfield 9, 3) := by decide +kernel
theorem dX10_thought_4 : decode cX10_thought 4 = .ok (.aload_n 0, 1) := by decide +kernel
theorem dX10_thought_5 : decode cX10_thought 5 = .ok (.getfield 16, 3) := by decide +kernel
theorem dX10_thought_8 : decode cX10_thought 8 = .ok (.invokestatic 71, 3) := by decide +kernel
theorem dX10_thought_11 : decode cX10_thought 11 = .ok (.aload_n 0, 1) := by decide +kernel
theorem dX10_thought_12 : decode cX10_thought 12 = .ok (.getfield 16, 3) := by decide +kernel
theorem dX10_thought_15 : decode cX10_thought 15 = .ok (.areturn, 1) := by decide +kernel
theorem dX10_isCorner_0 : decode cX10_isCorner 0 = .ok (.iload_n 0, 1) := by decide +kernel
theorem dX10_isCorner_1 : decode cX10_isCorner 1 = .ok (.i2l, 1) := by decide +kernel
theorem dX10_isCorner_2 : decode cX10_isCorner 2 = .ok (.lconst 0, 1) := by decide +kernel
theorem dX10_isCorner_3 : decode cX10_isCorner 3 = .ok (.ldc2_w 75, 3) := by decide +kernel
theorem dX10_isCorner_6 : decode cX10_isCorner 6 = .ok (.invokestatic 77, 3) := by decide +kernel
theorem dX10_isCorner_9 : decode cX10_isCorner 9 = .ok (.ireturn, 1) := by decide +kernel
theorem dX10_isStreet_0 : decode cX10_isStreet 0 = .ok (.iload_n 1, 1) := by decide +kernel
theorem dX10_isStreet_1 : decode cX10_isStreet 1 = .ok (.i2l, 1) := by decide +kernel
theorem dX10_isStreet_2 : decode cX10_isStreet 2 = .ok (.lconst 0, 1) := by decide +kernel
theorem dX10_isStreet_3 : decode cX10_isStreet 3 = .ok (.aload_n 0, 1) := by decide +kernel
theorem dX10_isStreet_4 : decode cX10_isStreet 4 = .ok (.bipush 49, 2) := by decide +kernel
theorem dX10_isStreet_6 : decode cX10_isStreet 6 = .ok (.iaload, 1) := by decide +kernel
theorem dX10_isStreet_7 : decode cX10_isStreet 7 = .ok (.iconst 1, 1) := by decide +kernel
theorem dX10_isStreet_8 : decode cX10_isStreet 8 = .ok (.isub, 1) := by decide +kernel
theorem dX10_isStreet_9 : decode cX10_isStreet 9 = .ok (.i2l, 1) := by decide +kernel
theorem dX10_isStreet_10 : decode cX10_isStreet 10 = .ok (.invokestatic 77, 3) := by decide +kernel
theorem dX10_isStreet_13 : decode cX10_isStreet 13 = .ok (.ireturn, 1) := by decide +kernel
theorem dX10_cost_0 : decode cX10_cost 0 = .ok (.iload_n 1, 1) := by decide +kernel
theorem dX10_cost_1 : decode cX10_cost 1 = .ok (.iconst 2, 1) := by decide +kernel
theorem dX10_cost_2 : decode cX10_cost 2 = .ok (.idiv, 1) := by decide +kernel
theorem dX10_cost_3 : decode cX10_cost 3 = .ok (.istore_n 2, 1) := by decide +kernel
theorem dX10_cost_4 : decode cX10_cost 4 = .ok (.iload_n 1, 1) := by decide +kernel
theorem dX10_cost_5 : decode cX10_cost 5 = .ok (.iconst 2, 1) := by decide +kernel
theorem dX10_cost_6 : decode cX10_cost 6 = .ok (.irem, 1) := by decide +kernel
theorem dX10_cost_7 : decode cX10_cost 7 = .ok (.iconst 1, 1) := by decide +kernel
theorem dX10_cost_8 : decode cX10_cost 8 = .ok (.if_icmp .ne 7, 3) := by decide +kernel
theorem dX10_cost_11 : decode cX10_cost 11 = .ok (.iconst 1, 1) := by decide +kernel
theorem dX10_cost_12 : decode cX10_cost 12 = .ok (.goto 4, 3) := by decide +kernel
theorem dX10_cost_15 : decode cX10_cost 15 = .ok (.iconst 0, 1) := by decide +kernel
theorem dX10_cost_16 : decode cX10_cost 16 = .ok (.istore_n 3, 1) := by decide +kernel
theorem dX10_cost_17 : decode cX10_cost 17 = .ok (.aload_n 0, 1) := by decide +kernel
theorem dX10_cost_18 : decode cX10_cost 18 = .ok (.bipush 40, 2) := by decide +kernel
theorem dX10_cost_20 : decode cX10_cost 20 = .ok (.iload_n 2, 1) := by decide +kernel
theorem dX10_cost_21 : decode cX10_cost 21 = .ok (.iadd, 1) := by decide +kernel
theorem dX10_cost_22 : decode cX10_cost 22 = .ok (.iaload, 1) := by decide +kernel
theorem dX10_cost_23 : decode cX10_cost 23 = .ok (.ifCond .ne 6, 3) := by decide +kernel
theorem dX10_cost_26 : decode cX10_cost 26 = .ok (.bipush (-9), 2) := by decide +kernel
theorem dX10_cost_28 : decode cX10_cost 28 = .ok (.ireturn, 1) := by decide +kernel
theorem dX10_cost_29 : decode cX10_cost 29 = .ok (.aload_n 0, 1) := by decide +kernel
theorem dX10_cost_30 : decode cX10_cost 30 = .ok (.bipush 16, 2) := by decide +kernel
theorem dX10_cost_32 : decode cX10_cost 32 = .ok (.iload_n 2, 1) := by decide +kernel
theorem dX10_cost_33 : decode cX10_cost 33 = .ok (.iadd, 1) := by decide +kernel
theorem dX10_cost_34 : decode cX10_cost 34 = .ok (.iaload, 1) := by decide +kernel
theorem dX10_cost_35 : decode cX10_cost 35 = .ok (.istore 4, 2) := by decide +kernel
theorem dX10_cost_37 : decode cX10_cost 37 = .ok (.aload_n 0, 1) := by decide +kernel
theorem dX10_cost_38 : decode cX10_cost 38 = .ok (.bipush 32, 2) := by decide +kernel
theorem dX10_cost_40 : decode cX10_cost 40 = .ok (.iload_n 2, 1) := by decide +kernel
theorem dX10_cost_41 : decode cX10_cost 41 = .ok (.iadd, 1) := by decide +kernel
theorem dX10_cost_42 : decode cX10_cost 42 = .ok (.iaload, 1) := by decide +kernel
theorem dX10_cost_43 : decode cX10_cost 43 = .ok (.istore 5, 2) := by decide +kernel
theorem dX10_cost_45 : decode cX10_cost 45 = .ok (.aload_n 0, 1) := by decide +kernel
theorem dX10_cost_46 : decode cX10_cost 46 = .ok (.bipush 24, 2) := by decide +kernel
theorem dX10_cost_48 : decode cX10_cost 48 = .ok (.iload_n 2, 1) := by decide +kernel
theorem dX10_cost_49 : decode cX10_cost 49 = .ok (.iadd, 1) := by decide +kernel
theorem dX10_cost_50 : decode cX10_cost 50 = .ok (.iaload, 1) := by decide +kernel
theorem dX10_cost_51 : decode cX10_cost 51 = .ok (.tableswitch 90 1 4 #[29, 41, 56, 71], 29) := by decide +kernel
theorem dX10_cost_80 : decode cX10_cost 80 = .ok (.iload_n 3, 1) := by decide +kernel
theorem dX10_cost_81 : decode cX10_cost 81 = .ok (.ifCond .eq 8, 3) := by decide +kernel
theorem dX10_cost_84 : decode cX10_cost 84 = .ok (.bipush (-9), 2) := by decide +kernel
theorem dX10_cost_86 : decode cX10_cost 86 = .ok (.goto 5, 3) := by decide +kernel
theorem dX10_cost_89 : decode cX10_cost 89 = .ok (.iload 4, 2) := by decide +kernel
theorem dX10_cost_91 : decode cX10_cost 91 = .ok (.ireturn, 1) := by decide +kernel
theorem dX10_cost_92 : decode cX10_cost 92 = .ok (.iload_n 3, 1) := by decide +kernel
theorem dX10_cost_93 : decode cX10_cost 93 = .ok (.ifCond .eq 11, 3) := by decide +kernel
theorem dX10_cost_96 : decode cX10_cost 96 = .ok (.iload 4, 2) := by decide +kernel
theorem dX10_cost_98 : decode cX10_cost 98 = .ok (.iload 5, 2) := by decide +kernel
theorem dX10_cost_100 : decode cX10_cost 100 = .ok (.iadd, 1) := by decide +kernel
theorem dX10_cost_101 : decode cX10_cost 101 = .ok (.goto 5, 3) := by decide +kernel
theorem dX10_cost_104 : decode cX10_cost 104 = .ok (.iload 4, 2) := by decide +kernel
theorem dX10_cost_106 : decode cX10_cost 106 = .ok (.ireturn, 1) := by decide +kernel
theorem dX10_cost_107 : decode cX10_cost 107 = .ok (.iload_n 3, 1) := by decide +kernel
theorem dX10_cost_108 : decode cX10_cost 108 = .ok (.ifCond .eq 8, 3) := by decide +kernel
theorem dX10_cost_111 : decode cX10_cost 111 = .ok (.bipush (-9), 2) := by decide +kernel
theorem dX10_cost_113 : decode cX10_cost 113 = .ok (.goto 8, 3) := by decide +kernel
theorem dX10_cost_116 : decode cX10_cost 116 = .ok (.iload 4, 2) := by decide +kernel
theorem dX10_cost_118 : decode cX10_cost 118 = .ok (.iload 5, 2) := by decide +kernel
theorem dX10_cost_120 : decode cX10_cost 120 = .ok (.iadd, 1) := by decide +kernel
theorem dX10_cost_121 : decode cX10_cost 121 = .ok (.ireturn, 1) := by decide +kernel
theorem dX10_cost_122 : decode cX10_cost 122 = .ok (.iload_n 3, 1) := by decide +kernel
theorem dX10_cost_123 : decode cX10_cost 123 = .ok (.ifCond .eq 13, 3) := by decide +kernel
theorem dX10_cost_126 : decode cX10_cost 126 = .ok (.iconst 2, 1) := by decide +kernel
theorem dX10_cost_127 : decode cX10_cost 127 = .ok (.iload 4, 2) := by decide +kernel
theorem dX10_cost_129 : decode cX10_cost 129 = .ok (.iload 5, 2) := by decide +kernel
theorem dX10_cost_131 : decode cX10_cost 131 = .ok (.iadd, 1) := by decide +kernel
theorem dX10_cost_132 : decode cX10_cost 132 = .ok (.imul, 1) := by decide +kernel
theorem dX10_cost_133 : decode cX10_cost 133 = .ok (.goto 7, 3) := by decide +kernel
theorem dX10_cost_136 : decode cX10_cost 136 = .ok (.iconst 2, 1) := by decide +kernel
theorem dX10_cost_137 : decode cX10_cost 137 = .ok (.iload 4, 2) := by decide +kernel
theorem dX10_cost_139 : decode cX10_cost 139 = .ok (.imul, 1) := by decide +kernel
theorem dX10_cost_140 : decode cX10_cost 140 = .ok (.ireturn, 1) := by decide +kernel
theorem dX10_cost_141 : decode cX10_cost 141 = .ok (.iload 4, 2) := by decide +kernel
theorem dX10_cost_143 : decode cX10_cost 143 = .ok (.ireturn, 1) := by decide +kernel
theorem dX10_begins_0 : decode cX10_begins 0 = .ok (.aload_n 0, 1) := by decide +kernel
theorem dX10_begins_1 : decode cX10_begins 1 = .ok (.iload_n 1, 1) := by decide +kernel
theorem dX10_begins_2 : decode cX10_begins 2 = .ok (.iconst 2, 1) := by decide +kernel
theorem dX10_begins_3 : decode cX10_begins 3 = .ok (.irem, 1) := by decide +kernel
theorem dX10_begins_4 : decode cX10_begins 4 = .ok (.ifCond .ne 7, 3) := by decide +kernel
theorem dX10_begins_7 : decode cX10_begins 7 = .ok (.iconst 0, 1) := by decide +kernel
theorem dX10_begins_8 : decode cX10_begins 8 = .ok (.goto 5, 3) := by decide +kernel
theorem dX10_begins_11 : decode cX10_begins 11 = .ok (.bipush 8, 2) := by decide +kernel
theorem dX10_begins_13 : decode cX10_begins 13 = .ok (.iload_n 1, 1) := by decide +kernel
theorem dX10_begins_14 : decode cX10_begins 14 = .ok (.iconst 2, 1) := by decide +kernel
theorem dX10_begins_15 : decode cX10_begins 15 = .ok (.idiv, 1) := by decide +kernel
theorem dX10_begins_16 : decode cX10_begins 16 = .ok (.iadd, 1) := by decide +kernel
theorem dX10_begins_17 : decode cX10_begins 17 = .ok (.iaload, 1) := by decide +kernel
theorem dX10_begins_18 : decode cX10_begins 18 = .ok (.ireturn, 1) := by decide +kernel
theorem dX10_ends_0 : decode cX10_ends 0 = .ok (.aload_n 0, 1) := by decide +kernel
theorem dX10_ends_1 : decode cX10_ends 1 = .ok (.iload_n 1, 1) := by decide +kernel
theorem dX10_ends_2 : decode cX10_ends 2 = .ok (.iconst 2, 1) := by decide +kernel
theorem dX10_ends_3 : decode cX10_ends 3 = .ok (.irem, 1) := by decide +kernel
theorem dX10_ends_4 : decode cX10_ends 4 = .ok (.ifCond .ne 8, 3) := by decide +kernel
theorem dX10_ends_7 : decode cX10_ends 7 = .ok (.bipush 8, 2) := by decide +kernel
theorem dX10_ends_9 : decode cX10_ends 9 = .ok (.goto 4, 3) := by decide +kernel
theorem dX10_ends_12 : decode cX10_ends 12 = .ok (.iconst 0, 1) := by decide +kernel
theorem dX10_ends_13 : decode cX10_ends 13 = .ok (.iload_n 1, 1) := by decide +kernel
theorem dX10_ends_14 : decode cX10_ends 14 = .ok (.iconst 2, 1) := by decide +kernel
theorem dX10_ends_15 : decode cX10_ends 15 = .ok (.idiv, 1) := by decide +kernel
theorem dX10_ends_16 : decode cX10_ends 16 = .ok (.iadd, 1) := by decide +kernel
theorem dX10_ends_17 : decode cX10_ends 17 = .ok (.iaload, 1) := by decide +kernel
theorem dX10_ends_18 : decode cX10_ends 18 = .ok (.ireturn, 1) := by decide +kernel
theorem dX10_goes_0 : decode cX10_goes 0 = .ok (.aload_n 0, 1) := by decide +kernel
theorem dX10_goes_1 : decode cX10_goes 1 = .ok (.iload_n 1, 1) := by decide +kernel
theorem dX10_goes_2 : decode cX10_goes 2 = .ok (.invokestatic 81, 3) := by decide +kernel
theorem dX10_goes_5 : decode cX10_goes 5 = .ok (.iload_n 2, 1) := by decide +kernel
theorem dX10_goes_6 : decode cX10_goes 6 = .ok (.if_icmp .ne 15, 3) := by decide +kernel
theorem dX10_goes_9 : decode cX10_goes 9 = .ok (.aload_n 0, 1) := by decide +kernel
theorem dX10_goes_10 : decode cX10_goes 10 = .ok (.iload_n 1, 1) := by decide +kernel
theorem dX10_goes_11 : decode cX10_goes 11 = .ok (.invokestatic 85, 3) := by decide +kernel
theorem dX10_goes_14 : decode cX10_goes 14 = .ok (.ifCond .lt 7, 3) := by decide +kernel
theorem dX10_goes_17 : decode cX10_goes 17 = .ok (.iconst 1, 1) := by decide +kernel
theorem dX10_goes_18 : decode cX10_goes 18 = .ok (.goto 4, 3) := by decide +kernel
theorem dX10_goes_21 : decode cX10_goes 21 = .ok (.iconst 0, 1) := by decide +kernel
theorem dX10_goes_22 : decode cX10_goes 22 = .ok (.ireturn, 1) := by decide +kernel
theorem dX10_isDue_0 : decode cX10_isDue 0 = .ok (.aload_n 0, 1) := by decide +kernel
theorem dX10_isDue_1 : decode cX10_isDue 1 = .ok (.bipush 40, 2) := by decide +kernel
theorem dX10_isDue_3 : decode cX10_isDue 3 = .ok (.iload_n 1, 1) := by decide +kernel
theorem dX10_isDue_4 : decode cX10_isDue 4 = .ok (.iadd, 1) := by decide +kernel
theorem dX10_isDue_5 : decode cX10_isDue 5 = .ok (.iaload, 1) := by decide +kernel
theorem dX10_isDue_6 : decode cX10_isDue 6 = .ok (.iconst 1, 1) := by decide +kernel
theorem dX10_isDue_7 : decode cX10_isDue 7 = .ok (.if_icmp .ne 17, 3) := by decide +kernel
theorem dX10_isDue_10 : decode cX10_isDue 10 = .ok (.aload_n 0, 1) := by decide +kernel
theorem dX10_isDue_11 : decode cX10_isDue 11 = .ok (.bipush 24, 2) := by decide +kernel
theorem dX10_isDue_13 : decode cX10_isDue 13 = .ok (.iload_n 1, 1) := by decide +kernel
theorem dX10_isDue_14 : decode cX10_isDue 14 = .ok (.iadd, 1) := by decide +kernel
theorem dX10_isDue_15 : decode cX10_isDue 15 = .ok (.iaload, 1) := by decide +kernel
theorem dX10_isDue_16 : decode cX10_isDue 16 = .ok (.iconst 5, 1) := by decide +kernel
theorem dX10_isDue_17 : decode cX10_isDue 17 = .ok (.if_icmp .eq 7, 3) := by decide +kernel
theorem dX10_isDue_20 : decode cX10_isDue 20 = .ok (.iconst 1, 1) := by decide +kernel
theorem dX10_isDue_21 : decode cX10_isDue 21 = .ok (.goto 4, 3) := by decide +kernel
theorem dX10_isDue_24 : decode cX10_isDue 24 = .ok (.iconst 0, 1) := by decide +kernel
theorem dX10_isDue_25 : decode cX10_isDue 25 = .ok (.ireturn, 1) := by decide +kernel
theorem dX10_due_0 : decode cX10_due 0 = .ok (.iconst 0, 1) := by decide +kernel
theorem dX10_due_1 : decode cX10_due 1 = .ok (.istore_n 1, 1) := by decide +kernel
theorem dX10_due_2 : decode cX10_due 2 = .ok (.iconst 0, 1) := by decide +kernel
theorem dX10_due_3 : decode cX10_due 3 = .ok (.istore_n 2, 1) := by decide +kernel
theorem dX10_due_4 : decode cX10_due 4 = .ok (.iload_n 2, 1) := by decide +kernel
theorem dX10_due_5 : decode cX10_due 5 = .ok (.aload_n 0, 1) := by decide +kernel
theorem dX10_due_6 : decode cX10_due 6 = .ok (.bipush 49, 2) := by decide +kernel
theorem dX10_due_8 : decode cX10_due 8 = .ok (.iaload, 1) := by decide +kernel
theorem dX10_due_9 : decode cX10_due 9 = .ok (.if_icmp .ge 27, 3) := by decide +kernel
theorem dX10_due_12 : decode cX10_due 12 = .ok (.iload_n 1, 1) := by decide +kernel
theorem dX10_due_13 : decode cX10_due 13 = .ok (.aload_n 0, 1) := by decide +kernel
theorem dX10_due_14 : decode cX10_due 14 = .ok (.iload_n 2, 1) := by decide +kernel
theorem dX10_due_15 : decode cX10_due 15 = .ok (.invokestatic 88, 3) := by decide +kernel
theorem dX10_due_18 : decode cX10_due 18 = .ok (.ifCond .eq 9, 3) := by decide +kernel
theorem dX10_due_21 : decode cX10_due 21 = .ok (.iconst 1, 1) := by decide +kernel
theorem dX10_due_22 : decode cX10_due 22 = .ok (.iload_n 2, 1) := by decide +kernel
theorem dX10_due_23 : decode cX10_due 23 = .ok (.ishl, 1) := by decide +kernel
theorem dX10_due_24 : decode cX10_due 24 = .ok (.goto 4, 3) := by decide +kernel
theorem dX10_due_27 : decode cX10_due 27 = .ok (.iconst 0, 1) := by decide +kernel
theorem dX10_due_28 : decode cX10_due 28 = .ok (.ior, 1) := by decide +kernel
theorem dX10_due_29 : decode cX10_due 29 = .ok (.istore_n 1, 1) := by decide +kernel
theorem dX10_due_30 : decode cX10_due 30 = .ok (.iinc 2 1, 3) := by decide +kernel
theorem dX10_due_33 : decode cX10_due 33 = .ok (.goto (-29), 3) := by decide +kernel
theorem dX10_due_36 : decode cX10_due 36 = .ok (.iload_n 1, 1) := by decide +kernel
theorem dX10_due_37 : decode cX10_due 37 = .ok (.ireturn, 1) := by decide +kernel
theorem dX10_comes_0 : decode cX10_comes 0 = .ok (.iload_n 1, 1) := by decide +kernel
theorem dX10_comes_1 : decode cX10_comes 1 = .ok (.invokestatic 92, 3) := by decide +kernel
theorem dX10_comes_4 : decode cX10_comes 4 = .ok (.ifCond .eq 36, 3) := by decide +kernel
theorem dX10_comes_7 : decode cX10_comes 7 = .ok (.iload_n 2, 1) := by decide +kernel
theorem dX10_comes_8 : decode cX10_comes 8 = .ok (.invokestatic 92, 3) := by decide +kernel
theorem dX10_comes_11 : decode cX10_comes 11 = .ok (.ifCond .eq 29, 3) := by decide +kernel
theorem dX10_comes_14 : decode cX10_comes 14 = .ok (.iload_n 1, 1) := by decide +kernel
theorem dX10_comes_15 : decode cX10_comes 15 = .ok (.iload_n 2, 1) := by decide +kernel
theorem dX10_comes_16 : decode cX10_comes 16 = .ok (.if_icmp .eq 24, 3) := by decide +kernel
theorem dX10_comes_19 : decode cX10_comes 19 = .ok (.iload_n 3, 1) := by decide +kernel
theorem dX10_comes_20 : decode cX10_comes 20 = .ok (.i2l, 1) := by decide +kernel
theorem dX10_comes_21 : decode cX10_comes 21 = .ok (.lconst 1, 1) := by decide +kernel
theorem dX10_comes_22 : decode cX10_comes 22 = .ok (.ldc2_w 96, 3) := by decide +kernel
theorem dX10_comes_25 : decode cX10_comes 25 = .ok (.invokestatic 77, 3) := by decide +kernel
theorem dX10_comes_28 : decode cX10_comes 28 = .ok (.ifCond .eq 12, 3) := by decide +kernel
theorem dX10_comes_31 : decode cX10_comes 31 = .ok (.aload_n 0, 1) := by decide +kernel
theorem dX10_comes_32 : decode cX10_comes 32 = .ok (.bipush 49, 2) := by decide +kernel
theorem dX10_comes_34 : decode cX10_comes 34 = .ok (.iaload, 1) := by decide +kernel
theorem dX10_comes_35 : decode cX10_comes 35 = .ok (.bipush 8, 2) := by decide +kernel
theorem dX10_comes_37 : decode cX10_comes 37 = .ok (.if_icmp .ne 5, 3) := by decide +kernel
theorem dX10_comes_40 : decode cX10_comes 40 = .ok (.iconst 0, 1) := by decide +kernel
theorem dX10_comes_41 : decode cX10_comes 41 = .ok (.ireturn, 1) := by decide +kernel
theorem dX10_comes_42 : decode cX10_comes 42 = .ok (.aload_n 0, 1) := by decide +kernel
theorem dX10_comes_43 : decode cX10_comes 43 = .ok (.bipush 49, 2) := by decide +kernel
theorem dX10_comes_45 : decode cX10_comes 45 = .ok (.iaload, 1) := by decide +kernel
theorem dX10_comes_46 : decode cX10_comes 46 = .ok (.istore 4, 2) := by decide +kernel
theorem dX10_comes_48 : decode cX10_comes 48 = .ok (.aload_n 0, 1) := by decide +kernel
theorem dX10_comes_49 : decode cX10_comes 49 = .ok (.iconst 0, 1) := by decide +kernel
theorem dX10_comes_50 : decode cX10_comes 50 = .ok (.iload 4, 2) := by decide +kernel
theorem dX10_comes_52 : decode cX10_comes 52 = .ok (.iadd, 1) := by decide +kernel
theorem dX10_comes_53 : decode cX10_comes 53 = .ok (.iload_n 1, 1) := by decide +kernel
theorem dX10_comes_54 : decode cX10_comes 54 = .ok (.iastore, 1) := by decide +kernel
theorem dX10_comes_55 : decode cX10_comes 55 = .ok (.aload_n 0, 1) := by decide +kernel
theorem dX10_comes_56 : decode cX10_comes 56 = .ok (.bipush 8, 2) := by decide +kernel
theorem dX10_comes_58 : decode cX10_comes 58 = .ok (.iload 4, 2) := by decide +kernel
theorem dX10_comes_60 : decode cX10_comes 60 = .ok (.iadd, 1) := by decide +kernel
theorem dX10_comes_61 : decode cX10_comes 61 = .ok (.iload_n 2, 1) := by decide +kernel
theorem dX10_comes_62 : decode cX10_comes 62 = .ok (.iastore, 1) := by decide +kernel
theorem dX10_comes_63 : decode cX10_comes 63 = .ok (.aload_n 0, 1) := by decide +kernel
theorem dX10_comes_64 : decode cX10_comes 64 = .ok (.bipush 16, 2) := by decide +kernel
theorem dX10_comes_66 : decode cX10_comes 66 = .ok (.iload 4, 2) := by decide +kernel
theorem dX10_comes_68 : decode cX10_comes 68 = .ok (.iadd, 1) := by decide +kernel
theorem dX10_comes_69 : decode cX10_comes 69 = .ok (.iload_n 3, 1) := by decide +kernel
theorem dX10_comes_70 : decode cX10_comes 70 = .ok (.iastore, 1) := by decide +kernel
theorem dX10_comes_71 : decode cX10_comes 71 = .ok (.aload_n 0, 1) := by decide +kernel
theorem dX10_comes_72 : decode cX10_comes 72 = .ok (.bipush 24, 2) := by decide +kernel
theorem dX10_comes_74 : decode cX10_comes 74 = .ok (.iload 4, 2) := by decide +kernel
theorem dX10_comes_76 : decode cX10_comes 76 = .ok (.iadd, 1) := by decide +kernel
theorem dX10_comes_77 : decode cX10_comes 77 = .ok (.iconst 0, 1) := by decide +kernel
theorem dX10_comes_78 : decode cX10_comes 78 = .ok (.iastore, 1) := by decide +kernel
theorem dX10_comes_79 : decode cX10_comes 79 = .ok (.aload_n 0, 1) := by decide +kernel
theorem dX10_comes_80 : decode cX10_comes 80 = .ok (.bipush 32, 2) := by decide +kernel
theorem dX10_comes_82 : decode cX10_comes 82 = .ok (.iload 4, 2) := by decide +kernel
theorem dX10_comes_84 : decode cX10_comes 84 = .ok (.iadd, 1) := by decide +kernel
theorem dX10_comes_85 : decode cX10_comes 85 = .ok (.iconst 0, 1) := by decide +kernel
theorem dX10_comes_86 : decode cX10_comes 86 = .ok (.iastore, 1) := by decide +kernel
theorem dX10_comes_87 : decode cX10_comes 87 = .ok (.aload_n 0, 1) := by decide +kernel
theorem dX10_comes_88 : decode cX10_comes 88 = .ok (.bipush 40, 2) := by decide +kernel
theorem dX10_comes_90 : decode cX10_comes 90 = .ok (.iload 4, 2) := by decide +kernel
theorem dX10_comes_92 : decode cX10_comes 92 = .ok (.iadd, 1) := by decide +kernel
theorem dX10_comes_93 : decode cX10_comes 93 = .ok (.iconst 1, 1) := by decide +kernel
theorem dX10_comes_94 : decode cX10_comes 94 = .ok (.iastore, 1) := by decide +kernel
theorem dX10_comes_95 : decode cX10_comes 95 = .ok (.aload_n 0, 1) := by decide +kernel
theorem dX10_comes_96 : decode cX10_comes 96 = .ok (.bipush 49, 2) := by decide +kernel
theorem dX10_comes_98 : decode cX10_comes 98 = .ok (.dup2, 1) := by decide +kernel
theorem dX10_comes_99 : decode cX10_comes 99 = .ok (.iaload, 1) := by decide +kernel
theorem dX10_comes_100 : decode cX10_comes 100 = .ok (.iconst 1, 1) := by decide +kernel
theorem dX10_comes_101 : decode cX10_comes 101 = .ok (.iadd, 1) := by decide +kernel
theorem dX10_comes_102 : decode cX10_comes 102 = .ok (.iastore, 1) := by decide +kernel
theorem dX10_comes_103 : decode cX10_comes 103 = .ok (.iconst 1, 1) := by decide +kernel
theorem dX10_comes_104 : decode cX10_comes 104 = .ok (.ireturn, 1) := by decide +kernel
theorem dX10_measures_0 : decode cX10_measures 0 = .ok (.iconst 0, 1) := by decide +kernel
theorem dX10_measures_1 : decode cX10_measures 1 = .ok (.istore_n 2, 1) := by decide +kernel
theorem dX10_measures_2 : decode cX10_measures 2 = .ok (.iload_n 2, 1) := by decide +kernel
theorem dX10_measures_3 : decode cX10_measures 3 = .ok (.bipush 36, 2) := by decide +kernel
theorem dX10_measures_5 : decode cX10_measures 5 = .ok (.if_icmp .ge 32, 3) := by decide +kernel
theorem dX10_measures_8 : decode cX10_measures 8 = .ok (.aload_n 0, 1) := by decide +kernel
theorem dX10_measures_9 : decode cX10_measures 9 = .ok (.getfield 28, 3) := by decide +kernel
theorem dX10_measures_12 : decode cX10_measures 12 = .ok (.iload_n 2, 1) := by decide +kernel
theorem dX10_measures_13 : decode cX10_measures 13 = .ok (.iload_n 2, 1) := by decide +kernel
theorem dX10_measures_14 : decode cX10_measures 14 = .ok (.bipush 6, 2) := by decide +kernel
theorem dX10_measures_16 : decode cX10_measures 16 = .ok (.idiv, 1) := by decide +kernel
theorem dX10_measures_17 : decode cX10_measures 17 = .ok (.iload_n 2, 1) := by decide +kernel
theorem dX10_measures_18 : decode cX10_measures 18 = .ok (.bipush 6, 2) := by decide +kernel
theorem dX10_measures_20 : decode cX10_measures 20 = .ok (.irem, 1) := by decide +kernel
theorem dX10_measures_21 : decode cX10_measures 21 = .ok (.if_icmp .ne 7, 3) := by decide +kernel
theorem dX10_measures_24 : decode cX10_measures 24 = .ok (.iconst 0, 1) := by decide +kernel
theorem dX10_measures_25 : decode cX10_measures 25 = .ok (.goto 5, 3) := by decide +kernel
theorem dX10_measures_28 : decode cX10_measures 28 = .ok (.ldc 98, 2) := by decide +kernel
theorem dX10_measures_30 : decode cX10_measures 30 = .ok (.iastore, 1) := by decide +kernel
theorem dX10_measures_31 : decode cX10_measures 31 = .ok (.iinc 2 1, 3) := by decide +kernel
theorem dX10_measures_34 : decode cX10_measures 34 = .ok (.goto (-32), 3) := by decide +kernel
theorem dX10_measures_37 : decode cX10_measures 37 = .ok (.iconst 0, 1) := by decide +kernel
theorem dX10_measures_38 : decode cX10_measures 38 = .ok (.istore_n 2, 1) := by decide +kernel
theorem dX10_measures_39 : decode cX10_measures 39 = .ok (.iload_n 2, 1) := by decide +kernel
theorem dX10_measures_40 : decode cX10_measures 40 = .ok (.iconst 2, 1) := by decide +kernel
theorem dX10_measures_41 : decode cX10_measures 41 = .ok (.aload_n 1, 1) := by decide +kernel
theorem dX10_measures_42 : decode cX10_measures 42 = .ok (.bipush 49, 2) := by decide +kernel
theorem dX10_measures_44 : decode cX10_measures 44 = .ok (.iaload, 1) := by decide +kernel
theorem dX10_measures_45 : decode cX10_measures 45 = .ok (.imul, 1) := by decide +kernel
theorem dX10_measures_46 : decode cX10_measures 46 = .ok (.if_icmp .ge 54, 3) := by decide +kernel
theorem dX10_measures_49 : decode cX10_measures 49 = .ok (.aload_n 1, 1) := by decide +kernel
theorem dX10_measures_50 : decode cX10_measures 50 = .ok (.iload_n 2, 1) := by decide +kernel
theorem dX10_measures_51 : decode cX10_measures 51 = .ok (.invokestatic 85, 3) := by decide +kernel
theorem dX10_measures_54 : decode cX10_measures 54 = .ok (.istore_n 3, 1) := by decide +kernel
theorem dX10_measures_55 : decode cX10_measures 55 = .ok (.bipush 6, 2) := by decide +kernel
theorem dX10_measures_57 : decode cX10_measures 57 = .ok (.aload_n 1, 1) := by decide +kernel
theorem dX10_measures_58 : decode cX10_measures 58 = .ok (.iload_n 2, 1) := by decide +kernel
theorem dX10_measures_59 : decode cX10_measures 59 = .ok (.invokestatic 81, 3) := by decide +kernel
theorem dX10_measures_62 : decode cX10_measures 62 = .ok (.imul, 1) := by decide +kernel
theorem dX10_measures_63 : decode cX10_measures 63 = .ok (.aload_n 1, 1) := by decide +kernel
theorem dX10_measures_64 : decode cX10_measures 64 = .ok (.iload_n 2, 1) := by decide +kernel
theorem dX10_measures_65 : decode cX10_measures 65 = .ok (.invokestatic 99, 3) := by decide +kernel
theorem dX10_measures_68 : decode cX10_measures 68 = .ok (.iadd, 1) := by decide +kernel
theorem dX10_measures_69 : decode cX10_measures 69 = .ok (.istore 4, 2) := by decide +kernel
theorem dX10_measures_71 : decode cX10_measures 71 = .ok (.iload_n 3, 1) := by decide +kernel
theorem dX10_measures_72 : decode cX10_measures 72 = .ok (.ifCond .lt 22, 3) := by decide +kernel
theorem dX10_measures_75 : decode cX10_measures 75 = .ok (.iload_n 3, 1) := by decide +kernel
theorem dX10_measures_76 : decode cX10_measures 76 = .ok (.aload_n 0, 1) := by decide +kernel
theorem dX10_measures_77 : decode cX10_measures 77 = .ok (.getfield 28, 3) := by decide +kernel
theorem dX10_measures_80 : decode cX10_measures 80 = .ok (.iload 4, 2) := by decide +kernel
theorem dX10_measures_82 : decode cX10_measures 82 = .ok (.iaload, 1) := by decide +kernel
theorem dX10_measures_83 : decode cX10_measures 83 = .ok (.if_icmp .ge 11, 3) := by decide +kernel
theorem dX10_measures_86 : decode cX10_measures 86 = .ok (.aload_n 0, 1) := by decide +kernel
theorem dX10_measures_87 : decode cX10_measures 87 = .ok (.getfield 28, 3) := by decide +kernel
theorem dX10_measures_90 : decode cX10_measures 90 = .ok (.iload 4, 2) := by decide +kernel
theorem dX10_measures_92 : decode cX10_measures 92 = .ok (.iload_n 3, 1) := by decide +kernel
theorem dX10_measures_93 : decode cX10_measures 93 = .ok (.iastore, 1) := by decide +kernel
theorem dX10_measures_94 : decode cX10_measures 94 = .ok (.iinc 2 1, 3) := by decide +kernel
theorem dX10_measures_97 : decode cX10_measures 97 = .ok (.goto (-58), 3) := by decide +kernel
theorem dX10_measures_100 : decode cX10_measures 100 = .ok (.iconst 0, 1) := by decide +kernel
theorem dX10_measures_101 : decode cX10_measures 101 = .ok (.istore_n 2, 1) := by decide +kernel
theorem dX10_measures_102 : decode cX10_measures 102 = .ok (.iload_n 2, 1) := by decide +kernel
theorem dX10_measures_103 : decode cX10_measures 103 = .ok (.bipush 6, 2) := by decide +kernel
theorem dX10_measures_105 : decode cX10_measures 105 = .ok (.if_icmp .ge 71, 3) := by decide +kernel
theorem dX10_measures_108 : decode cX10_measures 108 = .ok (.iconst 0, 1) := by decide +kernel
theorem dX10_measures_109 : decode cX10_measures 109 = .ok (.istore_n 3, 1) := by decide +kernel
theorem dX10_measures_110 : decode cX10_measures 110 = .ok (.iload_n 3, 1) := by decide +kernel
theorem dX10_measures_111 : decode cX10_measures 111 = .ok (.bipush 36, 2) := by decide +kernel
theorem dX10_measures_113 : decode cX10_measures 113 = .ok (.if_icmp .ge 57, 3) := by decide +kernel
theorem dX10_measures_116 : decode cX10_measures 116 = .ok (.aload_n 0, 1) := by decide +kernel
theorem dX10_measures_117 : decode cX10_measures 117 = .ok (.getfield 28, 3) := by decide +kernel
theorem dX10_measures_120 : decode cX10_measures 120 = .ok (.iload_n 3, 1) := by decide +kernel
theorem dX10_measures_121 : decode cX10_measures 121 = .ok (.bipush 6, 2) := by decide +kernel
theorem dX10_measures_123 : decode cX10_measures 123 = .ok (.idiv, 1) := by decide +kernel
theorem dX10_measures_124 : decode cX10_measures 124 = .ok (.bipush 6, 2) := by decide +kernel
theorem dX10_measures_126 : decode cX10_measures 126 = .ok (.imul, 1) := by decide +kernel
theorem dX10_measures_127 : decode cX10_measures 127 = .ok (.iload_n 2, 1) := by decide +kernel
theorem dX10_measures_128 : decode cX10_measures 128 = .ok (.iadd, 1) := by decide +kernel
theorem dX10_measures_129 : decode cX10_measures 129 = .ok (.iaload, 1) := by decide +kernel
theorem dX10_measures_130 : decode cX10_measures 130 = .ok (.aload_n 0, 1) := by decide +kernel
theorem dX10_measures_131 : decode cX10_measures 131 = .ok (.getfield 28, 3) := by decide +kernel
theorem dX10_measures_134 : decode cX10_measures 134 = .ok (.iload_n 2, 1) := by decide +kernel
theorem dX10_measures_135 : decode cX10_measures 135 = .ok (.bipush 6, 2) := by decide +kernel
theorem dX10_measures_137 : decode cX10_measures 137 = .ok (.imul, 1) := by decide +kernel
theorem dX10_measures_138 : decode cX10_measures 138 = .ok (.iload_n 3, 1) := by decide +kernel
theorem dX10_measures_139 : decode cX10_measures 139 = .ok (.bipush 6, 2) := by decide +kernel
theorem dX10_measures_141 : decode cX10_measures 141 = .ok (.irem, 1) := by decide +kernel
theorem dX10_measures_142 : decode cX10_measures 142 = .ok (.iadd, 1) := by decide +kernel
theorem dX10_measures_143 : decode cX10_measures 143 = .ok (.iaload, 1) := by decide +kernel
theorem dX10_measures_144 : decode cX10_measures 144 = .ok (.iadd, 1) := by decide +kernel
theorem dX10_measures_145 : decode cX10_measures 145 = .ok (.istore 4, 2) := by decide +kernel
theorem dX10_measures_147 : decode cX10_measures 147 = .ok (.aload_n 0, 1) := by decide +kernel
theorem dX10_measures_148 : decode cX10_measures 148 = .ok (.getfield 28, 3) := by decide +kernel
theorem dX10_measures_151 : decode cX10_measures 151 = .ok (.iload_n 3, 1) := by decide +kernel
theorem dX10_measures_152 : decode cX10_measures 152 = .ok (.aload_n 0, 1) := by decide +kernel
theorem dX10_measures_153 : decode cX10_measures 153 = .ok (.getfield 28, 3) := by decide +kernel
theorem dX10_measures_156 : decode cX10_measures 156 = .ok (.iload_n 3, 1) := by decide +kernel
theorem dX10_measures_157 : decode cX10_measures 157 = .ok (.iaload, 1) := by decide +kernel
theorem dX10_measures_158 : decode cX10_measures 158 = .ok (.iload 4, 2) := by decide +kernel
theorem dX10_measures_160 : decode cX10_measures 160 = .ok (.invokestatic 102, 3) := by decide +kernel
theorem dX10_measures_163 : decode cX10_measures 163 = .ok (.iastore, 1) := by decide +kernel
theorem dX10_measures_164 : decode cX10_measures 164 = .ok (.iinc 3 1, 3) := by decide +kernel
theorem dX10_measures_167 : decode cX10_measures 167 = .ok (.goto (-57), 3) := by decide +kernel
theorem dX10_measures_170 : decode cX10_measures 170 = .ok (.iinc 2 1, 3) := by decide +kernel
theorem dX10_measures_173 : decode cX10_measures 173 = .ok (.goto (-71), 3) := by decide +kernel
theorem dX10_measures_176 : decode cX10_measures 176 = .ok (.return_, 1) := by decide +kernel
theorem dX10_dist_0 : decode cX10_dist 0 = .ok (.aload_n 0, 1) := by decide +kernel
theorem dX10_dist_1 : decode cX10_dist 1 = .ok (.getfield 28, 3) := by decide +kernel
theorem dX10_dist_4 : decode cX10_dist 4 = .ok (.bipush 6, 2) := by decide +kernel
theorem dX10_dist_6 : decode cX10_dist 6 = .ok (.iload_n 1, 1) := by decide +kernel
theorem dX10_dist_7 : decode cX10_dist 7 = .ok (.imul, 1) := by decide +kernel
theorem dX10_dist_8 : decode cX10_dist 8 = .ok (.iload_n 2, 1) := by decide +kernel
theorem dX10_dist_9 : decode cX10_dist 9 = .ok (.iadd, 1) := by decide +kernel
theorem dX10_dist_10 : decode cX10_dist 10 = .ok (.iaload, 1) := by decide +kernel
theorem dX10_dist_11 : decode cX10_dist 11 = .ok (.ireturn, 1) := by decide +kernel
theorem dX10_nextStep_0 : decode cX10_nextStep 0 = .ok (.iload_n 2, 1) := by decide +kernel
theorem dX10_nextStep_1 : decode cX10_nextStep 1 = .ok (.iload_n 3, 1) := by decide +kernel
theorem dX10_nextStep_2 : decode cX10_nextStep 2 = .ok (.if_icmp .eq 14, 3) := by decide +kernel
theorem dX10_nextStep_5 : decode cX10_nextStep 5 = .ok (.aload_n 0, 1) := by decide +kernel
theorem dX10_nextStep_6 : decode cX10_nextStep 6 = .ok (.iload_n 2, 1) := by decide +kernel
theorem dX10_nextStep_7 : decode cX10_nextStep 7 = .ok (.iload_n 3, 1) := by decide +kernel
theorem dX10_nextStep_8 : decode cX10_nextStep 8 = .ok (.invokevirtual 108, 3) := by decide +kernel
theorem dX10_nextStep_11 : decode cX10_nextStep 11 = .ok (.ldc 98, 2) := by decide +kernel
theorem dX10_nextStep_13 : decode cX10_nextStep 13 = .ok (.if_icmp .lt 6, 3) := by decide +kernel
theorem dX10_nextStep_16 : decode cX10_nextStep 16 = .ok (.bipush (-9), 2) := by decide +kernel
theorem dX10_nextStep_18 : decode cX10_nextStep 18 = .ok (.ireturn, 1) := by decide +kernel
theorem dX10_nextStep_19 : decode cX10_nextStep 19 = .ok (.iconst 0, 1) := by decide +kernel
theorem dX10_nextStep_20 : decode cX10_nextStep 20 = .ok (.istore 4, 2) := by decide +kernel
theorem dX10_nextStep_22 : decode cX10_nextStep 22 = .ok (.aload_n 1, 1) := by decide +kernel
theorem dX10_nextStep_23 : decode cX10_nextStep 23 = .ok (.iload 4, 2) := by decide +kernel
theorem dX10_nextStep_25 : decode cX10_nextStep 25 = .ok (.iload_n 2, 1) := by decide +kernel
theorem dX10_nextStep_26 : decode cX10_nextStep 26 = .ok (.invokestatic 111, 3) := by decide +kernel
theorem dX10_nextStep_29 : decode cX10_nextStep 29 = .ok (.ifCond .eq 30, 3) := by decide +kernel
theorem dX10_nextStep_32 : decode cX10_nextStep 32 = .ok (.aload_n 1, 1) := by decide +kernel
theorem dX10_nextStep_33 : decode cX10_nextStep 33 = .ok (.iload 4, 2) := by decide +kernel
theorem dX10_nextStep_35 : decode cX10_nextStep 35 = .ok (.invokestatic 85, 3) := by decide +kernel
theorem dX10_nextStep_38 : decode cX10_nextStep 38 = .ok (.aload_n 0, 1) := by decide +kernel
theorem dX10_nextStep_39 : decode cX10_nextStep 39 = .ok (.aload_n 1, 1) := by decide +kernel
theorem dX10_nextStep_40 : decode cX10_nextStep 40 = .ok (.iload 4, 2) := by decide +kernel
theorem dX10_nextStep_42 : decode cX10_nextStep 42 = .ok (.invokestatic 99, 3) := by decide +kernel
theorem dX10_nextStep_45 : decode cX10_nextStep 45 = .ok (.iload_n 3, 1) := by decide +kernel
theorem dX10_nextStep_46 : decode cX10_nextStep 46 = .ok (.invokevirtual 108, 3) := by decide +kernel
theorem dX10_nextStep_49 : decode cX10_nextStep 49 = .ok (.iadd, 1) := by decide +kernel
theorem dX10_nextStep_50 : decode cX10_nextStep 50 = .ok (.aload_n 0, 1) := by decide +kernel
theorem dX10_nextStep_51 : decode cX10_nextStep 51 = .ok (.iload_n 2, 1) := by decide +kernel
theorem dX10_nextStep_52 : decode cX10_nextStep 52 = .ok (.iload_n 3, 1) := by decide +kernel
theorem dX10_nextStep_53 : decode cX10_nextStep 53 = .ok (.invokevirtual 108, 3) := by decide +kernel
theorem dX10_nextStep_56 : decode cX10_nextStep 56 = .ok (.if_icmp .eq 9, 3) := by decide +kernel
theorem dX10_nextStep_59 : decode cX10_nextStep 59 = .ok (.iinc 4 1, 3) := by decide +kernel
theorem dX10_nextStep_62 : decode cX10_nextStep 62 = .ok (.goto (-40), 3) := by decide +kernel
theorem dX10_nextStep_65 : decode cX10_nextStep 65 = .ok (.iload 4, 2) := by decide +kernel
theorem dX10_nextStep_67 : decode cX10_nextStep 67 = .ok (.ireturn, 1) := by decide +kernel
theorem dX10_leaves_0 : decode cX10_leaves 0 = .ok (.iload_n 3, 1) := by decide +kernel
theorem dX10_leaves_1 : decode cX10_leaves 1 = .ok (.iload_n 2, 1) := by decide +kernel
theorem dX10_leaves_2 : decode cX10_leaves 2 = .ok (.iconst 1, 1) := by decide +kernel
theorem dX10_leaves_3 : decode cX10_leaves 3 = .ok (.iload 4, 2) := by decide +kernel
theorem dX10_leaves_5 : decode cX10_leaves 5 = .ok (.iconst 2, 1) := by decide +kernel
theorem dX10_leaves_6 : decode cX10_leaves 6 = .ok (.idiv, 1) := by decide +kernel
theorem dX10_leaves_7 : decode cX10_leaves 7 = .ok (.ishl, 1) := by decide +kernel
theorem dX10_leaves_8 : decode cX10_leaves 8 = .ok (.iand, 1) := by decide +kernel
theorem dX10_leaves_9 : decode cX10_leaves 9 = .ok (.ior, 1) := by decide +kernel
theorem dX10_leaves_10 : decode cX10_leaves 10 = .ok (.istore 5, 2) := by decide +kernel
theorem dX10_leaves_12 : decode cX10_leaves 12 = .ok (.aload_n 1, 1) := by decide +kernel
theorem dX10_leaves_13 : decode cX10_leaves 13 = .ok (.iload 4, 2) := by decide +kernel
theorem dX10_leaves_15 : decode cX10_leaves 15 = .ok (.invokestatic 85, 3) := by decide +kernel
theorem dX10_leaves_18 : decode cX10_leaves 18 = .ok (.aload_n 0, 1) := by decide +kernel
theorem dX10_leaves_19 : decode cX10_leaves 19 = .ok (.getfield 31, 3) := by decide +kernel
theorem dX10_leaves_22 : decode cX10_leaves 22 = .ok (.bipush 6, 2) := by decide +kernel
theorem dX10_leaves_24 : decode cX10_leaves 24 = .ok (.iload 5, 2) := by decide +kernel
theorem dX10_leaves_26 : decode cX10_leaves 26 = .ok (.imul, 1) := by decide +kernel
theorem dX10_leaves_27 : decode cX10_leaves 27 = .ok (.aload_n 1, 1) := by decide +kernel
theorem dX10_leaves_28 : decode cX10_leaves 28 = .ok (.iload 4, 2) := by decide +kernel
theorem dX10_leaves_30 : decode cX10_leaves 30 = .ok (.invokestatic 99, 3) := by decide +kernel
theorem dX10_leaves_33 : decode cX10_leaves 33 = .ok (.iadd, 1) := by decide +kernel
theorem dX10_leaves_34 : decode cX10_leaves 34 = .ok (.iaload, 1) := by decide +kernel
theorem dX10_leaves_35 : decode cX10_leaves 35 = .ok (.iadd, 1) := by decide +kernel
theorem dX10_leaves_36 : decode cX10_leaves 36 = .ok (.ireturn, 1) := by decide +kernel
theorem dX10_fillsSet_0 : decode cX10_fillsSet 0 = .ok (.iconst 0, 1) := by decide +kernel
theorem dX10_fillsSet_1 : decode cX10_fillsSet 1 = .ok (.istore 5, 2) := by decide +kernel
theorem dX10_fillsSet_3 : decode cX10_fillsSet 3 = .ok (.iload 5, 2) := by decide +kernel
theorem dX10_fillsSet_5 : decode cX10_fillsSet 5 = .ok (.bipush 6, 2) := by decide +kernel
theorem dX10_fillsSet_7 : decode cX10_fillsSet 7 = .ok (.if_icmp .ge 39, 3) := by decide +kernel
theorem dX10_fillsSet_10 : decode cX10_fillsSet 10 = .ok (.aload_n 0, 1) := by decide +kernel
theorem dX10_fillsSet_11 : decode cX10_fillsSet 11 = .ok (.getfield 31, 3) := by decide +kernel
theorem dX10_fillsSet_14 : decode cX10_fillsSet 14 = .ok (.bipush 6, 2) := by decide +kernel
theorem dX10_fillsSet_16 : decode cX10_fillsSet 16 = .ok (.iload_n 3, 1) := by decide +kernel
theorem dX10_fillsSet_17 : decode cX10_fillsSet 17 = .ok (.imul, 1) := by decide +kernel
theorem dX10_fillsSet_18 : decode cX10_fillsSet 18 = .ok (.iload 5, 2) := by decide +kernel
theorem dX10_fillsSet_20 : decode cX10_fillsSet 20 = .ok (.iadd, 1) := by decide +kernel
theorem dX10_fillsSet_21 : decode cX10_fillsSet 21 = .ok (.iload_n 3, 1) := by decide +kernel
theorem dX10_fillsSet_22 : decode cX10_fillsSet 22 = .ok (.iload_n 2, 1) := by decide +kernel
theorem dX10_fillsSet_23 : decode cX10_fillsSet 23 = .ok (.if_icmp .ne 14, 3) := by decide +kernel
theorem dX10_fillsSet_26 : decode cX10_fillsSet 26 = .ok (.iload 5, 2) := by decide +kernel
theorem dX10_fillsSet_28 : decode cX10_fillsSet 28 = .ok (.iload 4, 2) := by decide +kernel
theorem dX10_fillsSet_30 : decode cX10_fillsSet 30 = .ok (.if_icmp .ne 7, 3) := by decide +kernel
theorem dX10_fillsSet_33 : decode cX10_fillsSet 33 = .ok (.iconst 0, 1) := by decide +kernel
theorem dX10_fillsSet_34 : decode cX10_fillsSet 34 = .ok (.goto 5, 3) := by decide +kernel
theorem dX10_fillsSet_37 : decode cX10_fillsSet 37 = .ok (.ldc 98, 2) := by decide +kernel
theorem dX10_fillsSet_39 : decode cX10_fillsSet 39 = .ok (.iastore, 1) := by decide +kernel
theorem dX10_fillsSet_40 : decode cX10_fillsSet 40 = .ok (.iinc 5 1, 3) := by decide +kernel
theorem dX10_fillsSet_43 : decode cX10_fillsSet 43 = .ok (.goto (-40), 3) := by decide +kernel
theorem dX10_fillsSet_46 : decode cX10_fillsSet 46 = .ok (.iconst 1, 1) := by decide +kernel
theorem dX10_fillsSet_47 : decode cX10_fillsSet 47 = .ok (.istore 5, 2) := by decide +kernel
theorem dX10_fillsSet_49 : decode cX10_fillsSet 49 = .ok (.iload 5, 2) := by decide +kernel
theorem dX10_fillsSet_51 : decode cX10_fillsSet 51 = .ok (.ifCond .eq 89, 3) := by decide +kernel
theorem dX10_fillsSet_54 : decode cX10_fillsSet 54 = .ok (.iconst 0, 1) := by decide +kernel
theorem dX10_fillsSet_55 : decode cX10_fillsSet 55 = .ok (.istore 5, 2) := by decide +kernel
theorem dX10_fillsSet_57 : decode cX10_fillsSet 57 = .ok (.iconst 0, 1) := by decide +kernel
theorem dX10_fillsSet_58 : decode cX10_fillsSet 58 = .ok (.istore 6, 2) := by decide +kernel
theorem dX10_fillsSet_60 : decode cX10_fillsSet 60 = .ok (.iload 6, 2) := by decide +kernel
theorem dX10_fillsSet_62 : decode cX10_fillsSet 62 = .ok (.iconst 2, 1) := by decide +kernel
theorem dX10_fillsSet_63 : decode cX10_fillsSet 63 = .ok (.aload_n 1, 1) := by decide +kernel
theorem dX10_fillsSet_64 : decode cX10_fillsSet 64 = .ok (.bipush 49, 2) := by decide +kernel
theorem dX10_fillsSet_66 : decode cX10_fillsSet 66 = .ok (.iaload, 1) := by decide +kernel
theorem dX10_fillsSet_67 : decode cX10_fillsSet 67 = .ok (.imul, 1) := by decide +kernel
theorem dX10_fillsSet_68 : decode cX10_fillsSet 68 = .ok (.if_icmp .ge 69, 3) := by decide +kernel
theorem dX10_fillsSet_71 : decode cX10_fillsSet 71 = .ok (.aload_n 1, 1) := by decide +kernel
theorem dX10_fillsSet_72 : decode cX10_fillsSet 72 = .ok (.iload 6, 2) := by decide +kernel
theorem dX10_fillsSet_74 : decode cX10_fillsSet 74 = .ok (.invokestatic 85, 3) := by decide +kernel
theorem dX10_fillsSet_77 : decode cX10_fillsSet 77 = .ok (.ifCond .ge 6, 3) := by decide +kernel
theorem dX10_fillsSet_80 : decode cX10_fillsSet 80 = .ok (.goto 51, 3) := by decide +kernel
theorem dX10_fillsSet_83 : decode cX10_fillsSet 83 = .ok (.bipush 6, 2) := by decide +kernel
theorem dX10_fillsSet_85 : decode cX10_fillsSet 85 = .ok (.iload_n 3, 1) := by decide +kernel
theorem dX10_fillsSet_86 : decode cX10_fillsSet 86 = .ok (.imul, 1) := by decide +kernel
theorem dX10_fillsSet_87 : decode cX10_fillsSet 87 = .ok (.aload_n 1, 1) := by decide +kernel
theorem dX10_fillsSet_88 : decode cX10_fillsSet 88 = .ok (.iload 6, 2) := by decide +kernel
theorem dX10_fillsSet_90 : decode cX10_fillsSet 90 = .ok (.invokestatic 81, 3) := by decide +kernel
theorem dX10_fillsSet_93 : decode cX10_fillsSet 93 = .ok (.iadd, 1) := by decide +kernel
theorem dX10_fillsSet_94 : decode cX10_fillsSet 94 = .ok (.istore 7, 2) := by decide +kernel
theorem dX10_fillsSet_96 : decode cX10_fillsSet 96 = .ok (.aload_n 0, 1) := by decide +kernel
theorem dX10_fillsSet_97 : decode cX10_fillsSet 97 = .ok (.aload_n 1, 1) := by decide +kernel
theorem dX10_fillsSet_98 : decode cX10_fillsSet 98 = .ok (.iload_n 2, 1) := by decide +kernel
theorem dX10_fillsSet_99 : decode cX10_fillsSet 99 = .ok (.iload_n 3, 1) := by decide +kernel
theorem dX10_fillsSet_100 : decode cX10_fillsSet 100 = .ok (.iload 6, 2) := by decide +kernel
theorem dX10_fillsSet_102 : decode cX10_fillsSet 102 = .ok (.invokevirtual 115, 3) := by decide +kernel
theorem dX10_fillsSet_105 : decode cX10_fillsSet 105 = .ok (.istore 8, 2) := by decide +kernel
theorem dX10_fillsSet_107 : decode cX10_fillsSet 107 = .ok (.iload 8, 2) := by decide +kernel
theorem dX10_fillsSet_109 : decode cX10_fillsSet 109 = .ok (.aload_n 0, 1) := by decide +kernel
theorem dX10_fillsSet_110 : decode cX10_fillsSet 110 = .ok (.getfield 31, 3) := by decide +kernel
theorem dX10_fillsSet_113 : decode cX10_fillsSet 113 = .ok (.iload 7, 2) := by decide +kernel
theorem dX10_fillsSet_115 : decode cX10_fillsSet 115 = .ok (.iaload, 1) := by decide +kernel
theorem dX10_fillsSet_116 : decode cX10_fillsSet 116 = .ok (.if_icmp .ge 15, 3) := by decide +kernel
theorem dX10_fillsSet_119 : decode cX10_fillsSet 119 = .ok (.aload_n 0, 1) := by decide +kernel
theorem dX10_fillsSet_120 : decode cX10_fillsSet 120 = .ok (.getfield 31, 3) := by decide +kernel
theorem dX10_fillsSet_123 : decode cX10_fillsSet 123 = .ok (.iload 7, 2) := by decide +kernel
theorem dX10_fillsSet_125 : decode cX10_fillsSet 125 = .ok (.iload 8, 2) := by decide +kernel
theorem dX10_fillsSet_127 : decode cX10_fillsSet 127 = .ok (.iastore, 1) := by decide +kernel
theorem dX10_fillsSet_128 : decode cX10_fillsSet 128 = .ok (.iconst 1, 1) := by decide +kernel
theorem dX10_fillsSet_129 : decode cX10_fillsSet 129 = .ok (.istore 5, 2) := by decide +kernel
theorem dX10_fillsSet_131 : decode cX10_fillsSet 131 = .ok (.iinc 6 1, 3) := by decide +kernel
theorem dX10_fillsSet_134 : decode cX10_fillsSet 134 = .ok (.goto (-74), 3) := by decide +kernel
theorem dX10_fillsSet_137 : decode cX10_fillsSet 137 = .ok (.goto (-88), 3) := by decide +kernel
theorem dX10_fillsSet_140 : decode cX10_fillsSet 140 = .ok (.return_, 1) := by decide +kernel
theorem dX10_seeks_0 : decode cX10_seeks 0 = .ok (.iload_n 2, 1) := by decide +kernel
theorem dX10_seeks_1 : decode cX10_seeks 1 = .ok (.istore 4, 2) := by decide +kernel
theorem dX10_seeks_3 : decode cX10_seeks 3 = .ok (.iload 4, 2) := by decide +kernel
theorem dX10_seeks_5 : decode cX10_seeks 5 = .ok (.ifCond .lt 27, 3) := by decide +kernel
theorem dX10_seeks_8 : decode cX10_seeks 8 = .ok (.iload 4, 2) := by decide +kernel
theorem dX10_seeks_10 : decode cX10_seeks 10 = .ok (.iload_n 2, 1) := by decide +kernel
theorem dX10_seeks_11 : decode cX10_seeks 11 = .ok (.iconst (-1), 1) := by decide +kernel
theorem dX10_seeks_12 : decode cX10_seeks 12 = .ok (.ixor, 1) := by decide +kernel
theorem dX10_seeks_13 : decode cX10_seeks 13 = .ok (.iand, 1) := by decide +kernel
theorem dX10_seeks_14 : decode cX10_seeks 14 = .ok (.ifCond .ne 12, 3) := by decide +kernel
theorem dX10_seeks_17 : decode cX10_seeks 17 = .ok (.aload_n 0, 1) := by decide +kernel
theorem dX10_seeks_18 : decode cX10_seeks 18 = .ok (.aload_n 1, 1) := by decide +kernel
theorem dX10_seeks_19 : decode cX10_seeks 19 = .ok (.iload_n 2, 1) := by decide +kernel
theorem dX10_seeks_20 : decode cX10_seeks 20 = .ok (.iload 4, 2) := by decide +kernel
theorem dX10_seeks_22 : decode cX10_seeks 22 = .ok (.iload_n 3, 1) := by decide +kernel
theorem dX10_seeks_23 : decode cX10_seeks 23 = .ok (.invokevirtual 119, 3) := by decide +kernel
theorem dX10_seeks_26 : decode cX10_seeks 26 = .ok (.iinc 4 (-1), 3) := by decide +kernel
theorem dX10_seeks_29 : decode cX10_seeks 29 = .ok (.goto (-26), 3) := by decide +kernel
theorem dX10_seeks_32 : decode cX10_seeks 32 = .ok (.aload_n 0, 1) := by decide +kernel
theorem dX10_seeks_33 : decode cX10_seeks 33 = .ok (.getfield 31, 3) := by decide +kernel
theorem dX10_seeks_36 : decode cX10_seeks 36 = .ok (.aload_n 1, 1) := by decide +kernel
theorem dX10_seeks_37 : decode cX10_seeks 37 = .ok (.bipush 48, 2) := by decide +kernel
theorem dX10_seeks_39 : decode cX10_seeks 39 = .ok (.iaload, 1) := by decide +kernel
theorem dX10_seeks_40 : decode cX10_seeks 40 = .ok (.iaload, 1) := by decide +kernel
theorem dX10_seeks_41 : decode cX10_seeks 41 = .ok (.istore 4, 2) := by decide +kernel
theorem dX10_seeks_43 : decode cX10_seeks 43 = .ok (.iload 4, 2) := by decide +kernel
theorem dX10_seeks_45 : decode cX10_seeks 45 = .ok (.ldc 98, 2) := by decide +kernel
theorem dX10_seeks_47 : decode cX10_seeks 47 = .ok (.if_icmp .lt 8, 3) := by decide +kernel
theorem dX10_seeks_50 : decode cX10_seeks 50 = .ok (.bipush (-9), 2) := by decide +kernel
theorem dX10_seeks_52 : decode cX10_seeks 52 = .ok (.goto 5, 3) := by decide +kernel
theorem dX10_seeks_55 : decode cX10_seeks 55 = .ok (.iload 4, 2) := by decide +kernel
theorem dX10_seeks_57 : decode cX10_seeks 57 = .ok (.ireturn, 1) := by decide +kernel
theorem dX10_roundOf_0 : decode cX10_roundOf 0 = .ok (.aload_n 0, 1) := by decide +kernel
theorem dX10_roundOf_1 : decode cX10_roundOf 1 = .ok (.aload_n 1, 1) := by decide +kernel
theorem dX10_roundOf_2 : decode cX10_roundOf 2 = .ok (.aload_n 1, 1) := by decide +kernel
theorem dX10_roundOf_3 : decode cX10_roundOf 3 = .ok (.invokestatic 123, 3) := by decide +kernel
theorem dX10_roundOf_6 : decode cX10_roundOf 6 = .ok (.aload_n 1, 1) := by decide +kernel
theorem dX10_roundOf_7 : decode cX10_roundOf 7 = .ok (.bipush 48, 2) := by decide +kernel
theorem dX10_roundOf_9 : decode cX10_roundOf 9 = .ok (.iaload, 1) := by decide +kernel
theorem dX10_roundOf_10 : decode cX10_roundOf 10 = .ok (.invokevirtual 127, 3) := by decide +kernel
theorem dX10_roundOf_13 : decode cX10_roundOf 13 = .ok (.ireturn, 1) := by decide +kernel
theorem dX10_walks_0 : decode cX10_walks 0 = .ok (.aload_n 0, 1) := by decide +kernel
theorem dX10_walks_1 : decode cX10_walks 1 = .ok (.aload_n 1, 1) := by decide +kernel
theorem dX10_walks_2 : decode cX10_walks 2 = .ok (.invokevirtual 131, 3) := by decide +kernel
theorem dX10_walks_5 : decode cX10_walks 5 = .ok (.istore_n 2, 1) := by decide +kernel
theorem dX10_walks_6 : decode cX10_walks 6 = .ok (.aload_n 1, 1) := by decide +kernel
theorem dX10_walks_7 : decode cX10_walks 7 = .ok (.invokestatic 123, 3) := by decide +kernel
theorem dX10_walks_10 : decode cX10_walks 10 = .ok (.istore_n 3, 1) := by decide +kernel
theorem dX10_walks_11 : decode cX10_walks 11 = .ok (.aload_n 1, 1) := by decide +kernel
theorem dX10_walks_12 : decode cX10_walks 12 = .ok (.bipush 48, 2) := by decide +kernel
theorem dX10_walks_14 : decode cX10_walks 14 = .ok (.iaload, 1) := by decide +kernel
theorem dX10_walks_15 : decode cX10_walks 15 = .ok (.istore 4, 2) := by decide +kernel
theorem dX10_walks_17 : decode cX10_walks 17 = .ok (.iconst 0, 1) := by decide +kernel
theorem dX10_walks_18 : decode cX10_walks 18 = .ok (.istore 5, 2) := by decide +kernel
theorem dX10_walks_20 : decode cX10_walks 20 = .ok (.iload_n 2, 1) := by decide +kernel
theorem dX10_walks_21 : decode cX10_walks 21 = .ok (.istore 6, 2) := by decide +kernel
theorem dX10_walks_23 : decode cX10_walks 23 = .ok (.aload_n 0, 1) := by decide +kernel
theorem dX10_walks_24 : decode cX10_walks 24 = .ok (.iconst 0, 1) := by decide +kernel
theorem dX10_walks_25 : decode cX10_walks 25 = .ok (.putfield 134, 3) := by decide +kernel
theorem dX10_walks_28 : decode cX10_walks 28 = .ok (.iload 6, 2) := by decide +kernel
theorem dX10_walks_30 : decode cX10_walks 30 = .ok (.ifCond .le 94, 3) := by decide +kernel
theorem dX10_walks_33 : decode cX10_walks 33 = .ok (.iconst 0, 1) := by decide +kernel
theorem dX10_walks_34 : decode cX10_walks 34 = .ok (.istore 7, 2) := by decide +kernel
theorem dX10_walks_36 : decode cX10_walks 36 = .ok (.aload_n 1, 1) := by decide +kernel
theorem dX10_walks_37 : decode cX10_walks 37 = .ok (.iload 7, 2) := by decide +kernel
theorem dX10_walks_39 : decode cX10_walks 39 = .ok (.iload 4, 2) := by decide +kernel
theorem dX10_walks_41 : decode cX10_walks 41 = .ok (.invokestatic 111, 3) := by decide +kernel
theorem dX10_walks_44 : decode cX10_walks 44 = .ok (.ifCond .eq 18, 3) := by decide +kernel
theorem dX10_walks_47 : decode cX10_walks 47 = .ok (.aload_n 0, 1) := by decide +kernel
theorem dX10_walks_48 : decode cX10_walks 48 = .ok (.aload_n 1, 1) := by decide +kernel
theorem dX10_walks_49 : decode cX10_walks 49 = .ok (.iload_n 3, 1) := by decide +kernel
theorem dX10_walks_50 : decode cX10_walks 50 = .ok (.iload 5, 2) := by decide +kernel
theorem dX10_walks_52 : decode cX10_walks 52 = .ok (.iload 7, 2) := by decide +kernel
theorem dX10_walks_54 : decode cX10_walks 54 = .ok (.invokevirtual 115, 3) := by decide +kernel
theorem dX10_walks_57 : decode cX10_walks 57 = .ok (.iload 6, 2) := by decide +kernel
theorem dX10_walks_59 : decode cX10_walks 59 = .ok (.if_icmp .eq 9, 3) := by decide +kernel
theorem dX10_walks_62 : decode cX10_walks 62 = .ok (.iinc 7 1, 3) := by decide +kernel
theorem dX10_walks_65 : decode cX10_walks 65 = .ok (.goto (-29), 3) := by decide +kernel
theorem dX10_walks_68 : decode cX10_walks 68 = .ok (.aload_n 0, 1) := by decide +kernel
theorem dX10_walks_69 : decode cX10_walks 69 = .ok (.getfield 34, 3) := by decide +kernel
theorem dX10_walks_72 : decode cX10_walks 72 = .ok (.aload_n 0, 1) := by decide +kernel
theorem dX10_walks_73 : decode cX10_walks 73 = .ok (.getfield 134, 3) := by decide +kernel
theorem dX10_walks_76 : decode cX10_walks 76 = .ok (.iload 7, 2) := by decide +kernel
theorem dX10_walks_78 : decode cX10_walks 78 = .ok (.iastore, 1) := by decide +kernel
theorem dX10_walks_79 : decode cX10_walks 79 = .ok (.aload_n 0, 1) := by decide +kernel
theorem dX10_walks_80 : decode cX10_walks 80 = .ok (.dup, 1) := by decide +kernel
theorem dX10_walks_81 : decode cX10_walks 81 = .ok (.getfield 134, 3) := by decide +kernel
theorem dX10_walks_84 : decode cX10_walks 84 = .ok (.iconst 1, 1) := by decide +kernel
theorem dX10_walks_85 : decode cX10_walks 85 = .ok (.iadd, 1) := by decide +kernel
theorem dX10_walks_86 : decode cX10_walks 86 = .ok (.putfield 134, 3) := by decide +kernel
theorem dX10_walks_89 : decode cX10_walks 89 = .ok (.iload 6, 2) := by decide +kernel
theorem dX10_walks_91 : decode cX10_walks 91 = .ok (.aload_n 1, 1) := by decide +kernel
theorem dX10_walks_92 : decode cX10_walks 92 = .ok (.iload 7, 2) := by decide +kernel
theorem dX10_walks_94 : decode cX10_walks 94 = .ok (.invokestatic 85, 3) := by decide +kernel
theorem dX10_walks_97 : decode cX10_walks 97 = .ok (.isub, 1) := by decide +kernel
theorem dX10_walks_98 : decode cX10_walks 98 = .ok (.istore 6, 2) := by decide +kernel
theorem dX10_walks_100 : decode cX10_walks 100 = .ok (.iload 5, 2) := by decide +kernel
theorem dX10_walks_102 : decode cX10_walks 102 = .ok (.iload_n 3, 1) := by decide +kernel
theorem dX10_walks_103 : decode cX10_walks 103 = .ok (.iconst 1, 1) := by decide +kernel
theorem dX10_walks_104 : decode cX10_walks 104 = .ok (.iload 7, 2) := by decide +kernel
theorem dX10_walks_106 : decode cX10_walks 106 = .ok (.iconst 2, 1) := by decide +kernel
theorem dX10_walks_107 : decode cX10_walks 107 = .ok (.idiv, 1) := by decide +kernel
theorem dX10_walks_108 : decode cX10_walks 108 = .ok (.ishl, 1) := by decide +kernel
theorem dX10_walks_109 : decode cX10_walks 109 = .ok (.iand, 1) := by decide +kernel
theorem dX10_walks_110 : decode cX10_walks 110 = .ok (.ior, 1) := by decide +kernel
theorem dX10_walks_111 : decode cX10_walks 111 = .ok (.istore 5, 2) := by decide +kernel
theorem dX10_walks_113 : decode cX10_walks 113 = .ok (.aload_n 1, 1) := by decide +kernel
theorem dX10_walks_114 : decode cX10_walks 114 = .ok (.iload 7, 2) := by decide +kernel
theorem dX10_walks_116 : decode cX10_walks 116 = .ok (.invokestatic 99, 3) := by decide +kernel
theorem dX10_walks_119 : decode cX10_walks 119 = .ok (.istore 4, 2) := by decide +kernel
theorem dX10_walks_121 : decode cX10_walks 121 = .ok (.goto (-93), 3) := by decide +kernel
theorem dX10_walks_124 : decode cX10_walks 124 = .ok (.iload_n 2, 1) := by decide +kernel
theorem dX10_walks_125 : decode cX10_walks 125 = .ok (.ireturn, 1) := by decide +kernel
theorem dX10_isAgain_0 : decode cX10_isAgain 0 = .ok (.aload_n 0, 1) := by decide +kernel
theorem dX10_isAgain_1 : decode cX10_isAgain 1 = .ok (.getfield 34, 3) := by decide +kernel
theorem dX10_isAgain_4 : decode cX10_isAgain 4 = .ok (.iload_n 2, 1) := by decide +kernel
theorem dX10_isAgain_5 : decode cX10_isAgain 5 = .ok (.iaload, 1) := by decide +kernel
theorem dX10_isAgain_6 : decode cX10_isAgain 6 = .ok (.iconst 2, 1) := by decide +kernel
theorem dX10_isAgain_7 : decode cX10_isAgain 7 = .ok (.idiv, 1) := by decide +kernel
theorem dX10_isAgain_8 : decode cX10_isAgain 8 = .ok (.istore_n 3, 1) := by decide +kernel
theorem dX10_isAgain_9 : decode cX10_isAgain 9 = .ok (.aload_n 1, 1) := by decide +kernel
theorem dX10_isAgain_10 : decode cX10_isAgain 10 = .ok (.iload_n 3, 1) := by decide +kernel
theorem dX10_isAgain_11 : decode cX10_isAgain 11 = .ok (.invokestatic 88, 3) := by decide +kernel
theorem dX10_isAgain_14 : decode cX10_isAgain 14 = .ok (.ifCond .ne 7, 3) := by decide +kernel
theorem dX10_isAgain_17 : decode cX10_isAgain 17 = .ok (.iconst 1, 1) := by decide +kernel
theorem dX10_isAgain_18 : decode cX10_isAgain 18 = .ok (.goto 4, 3) := by decide +kernel
theorem dX10_isAgain_21 : decode cX10_isAgain 21 = .ok (.iconst 0, 1) := by decide +kernel
theorem dX10_isAgain_22 : decode cX10_isAgain 22 = .ok (.istore 4, 2) := by decide +kernel
theorem dX10_isAgain_24 : decode cX10_isAgain 24 = .ok (.iconst 0, 1) := by decide +kernel
theorem dX10_isAgain_25 : decode cX10_isAgain 25 = .ok (.istore 5, 2) := by decide +kernel
theorem dX10_isAgain_27 : decode cX10_isAgain 27 = .ok (.iload 5, 2) := by decide +kernel
theorem dX10_isAgain_29 : decode cX10_isAgain 29 = .ok (.iload_n 2, 1) := by decide +kernel
theorem dX10_isAgain_30 : decode cX10_isAgain 30 = .ok (.if_icmp .ge 34, 3) := by decide +kernel
theorem dX10_isAgain_33 : decode cX10_isAgain 33 = .ok (.iload 4, 2) := by decide +kernel
theorem dX10_isAgain_35 : decode cX10_isAgain 35 = .ok (.ifCond .ne 16, 3) := by decide +kernel
theorem dX10_isAgain_38 : decode cX10_isAgain 38 = .ok (.aload_n 0, 1) := by decide +kernel
theorem dX10_isAgain_39 : decode cX10_isAgain 39 = .ok (.getfield 34, 3) := by decide +kernel
theorem dX10_isAgain_42 : decode cX10_isAgain 42 = .ok (.iload 5, 2) := by decide +kernel
theorem dX10_isAgain_44 : decode cX10_isAgain 44 = .ok (.iaload, 1) := by decide +kernel
theorem dX10_isAgain_45 : decode cX10_isAgain 45 = .ok (.iconst 2, 1) := by decide +kernel
theorem dX10_isAgain_46 : decode cX10_isAgain 46 = .ok (.idiv, 1) := by decide +kernel
theorem dX10_isAgain_47 : decode cX10_isAgain 47 = .ok (.iload_n 3, 1) := by decide +kernel
theorem dX10_isAgain_48 : decode cX10_isAgain 48 = .ok (.if_icmp .ne 7, 3) := by decide +kernel
theorem dX10_isAgain_51 : decode cX10_isAgain 51 = .ok (.iconst 1, 1) := by decide +kernel
theorem dX10_isAgain_52 : decode cX10_isAgain 52 = .ok (.goto 4, 3) := by decide +kernel
theorem dX10_isAgain_55 : decode cX10_isAgain 55 = .ok (.iconst 0, 1) := by decide +kernel
theorem dX10_isAgain_56 : decode cX10_isAgain 56 = .ok (.istore 4, 2) := by decide +kernel
theorem dX10_isAgain_58 : decode cX10_isAgain 58 = .ok (.iinc 5 1, 3) := by decide +kernel
theorem dX10_isAgain_61 : decode cX10_isAgain 61 = .ok (.goto (-34), 3) := by decide +kernel
theorem dX10_isAgain_64 : decode cX10_isAgain 64 = .ok (.iload 4, 2) := by decide +kernel
theorem dX10_isAgain_66 : decode cX10_isAgain 66 = .ok (.ireturn, 1) := by decide +kernel
theorem dX10_letter_0 : decode cX10_letter 0 = .ok (.iload_n 1, 1) := by decide +kernel
theorem dX10_letter_1 : decode cX10_letter 1 = .ok (.ifCond .ge 10, 3) := by decide +kernel
theorem dX10_letter_4 : decode cX10_letter 4 = .ok (.aload_n 0, 1) := by decide +kernel
theorem dX10_letter_5 : decode cX10_letter 5 = .ok (.bipush (-4), 2) := by decide +kernel
theorem dX10_letter_7 : decode cX10_letter 7 = .ok (.invokevirtual 66, 3) := by decide +kernel
theorem dX10_letter_10 : decode cX10_letter 10 = .ok (.ireturn, 1) := by decide +kernel
theorem dX10_letter_11 : decode cX10_letter 11 = .ok (.iload_n 1, 1) := by decide +kernel
theorem dX10_letter_12 : decode cX10_letter 12 = .ok (.sipush 255, 3) := by decide +kernel
theorem dX10_letter_15 : decode cX10_letter 15 = .ok (.if_icmp .gt 12, 3) := by decide +kernel
theorem dX10_letter_18 : decode cX10_letter 18 = .ok (.aload_n 0, 1) := by decide +kernel
theorem dX10_letter_19 : decode cX10_letter 19 = .ok (.getfield 138, 3) := by decide +kernel
theorem dX10_letter_22 : decode cX10_letter 22 = .ok (.bipush 96, 2) := by decide +kernel
theorem dX10_letter_24 : decode cX10_letter 24 = .ok (.if_icmp .ne 10, 3) := by decide +kernel
theorem dX10_letter_27 : decode cX10_letter 27 = .ok (.aload_n 0, 1) := by decide +kernel
theorem dX10_letter_28 : decode cX10_letter 28 = .ok (.bipush (-6), 2) := by decide +kernel
theorem dX10_letter_30 : decode cX10_letter 30 = .ok (.invokevirtual 66, 3) := by decide +kernel
theorem dX10_letter_33 : decode cX10_letter 33 = .ok (.ireturn, 1) := by decide +kernel
theorem dX10_letter_34 : decode cX10_letter 34 = .ok (.aload_n 0, 1) := by decide +kernel
theorem dX10_letter_35 : decode cX10_letter 35 = .ok (.getfield 25, 3) := by decide +kernel
theorem dX10_letter_38 : decode cX10_letter 38 = .ok (.aload_n 0, 1) := by decide +kernel
theorem dX10_letter_39 : decode cX10_letter 39 = .ok (.getfield 138, 3) := by decide +kernel
theorem dX10_letter_42 : decode cX10_letter 42 = .ok (.iload_n 1, 1) := by decide +kernel
theorem dX10_letter_43 : decode cX10_letter 43 = .ok (.iastore, 1) := by decide +kernel
theorem dX10_letter_44 : decode cX10_letter 44 = .ok (.aload_n 0, 1) := by decide +kernel
theorem dX10_letter_45 : decode cX10_letter 45 = .ok (.dup, 1) := by decide +kernel
theorem dX10_letter_46 : decode cX10_letter 46 = .ok (.getfield 138, 3) := by decide +kernel
theorem dX10_letter_49 : decode cX10_letter 49 = .ok (.iconst 1, 1) := by decide +kernel
theorem dX10_letter_50 : decode cX10_letter 50 = .ok (.iadd, 1) := by decide +kernel
theorem dX10_letter_51 : decode cX10_letter 51 = .ok (.putfield 138, 3) := by decide +kernel
theorem dX10_letter_54 : decode cX10_letter 54 = .ok (.aload_n 0, 1) := by decide +kernel
theorem dX10_letter_55 : decode cX10_letter 55 = .ok (.getfield 138, 3) := by decide +kernel
theorem dX10_letter_58 : decode cX10_letter 58 = .ok (.ireturn, 1) := by decide +kernel
theorem dX10_sizeOf_0 : decode cX10_sizeOf 0 = .ok (.iload_n 0, 1) := by decide +kernel
theorem dX10_sizeOf_1 : decode cX10_sizeOf 1 = .ok (.lookupswitch 57 #[(104, 55), (107, 53), (108, 53), (115, 51), (120, 55)], 51) := by decide +kernel
theorem dX10_sizeOf_52 : decode cX10_sizeOf 52 = .ok (.iconst 5, 1) := by decide +kernel
theorem dX10_sizeOf_53 : decode cX10_sizeOf 53 = .ok (.ireturn, 1) := by decide +kernel
theorem dX10_sizeOf_54 : decode cX10_sizeOf 54 = .ok (.iconst 4, 1) := by decide +kernel
theorem dX10_sizeOf_55 : decode cX10_sizeOf 55 = .ok (.ireturn, 1) := by decide +kernel
theorem dX10_sizeOf_56 : decode cX10_sizeOf 56 = .ok (.iconst 2, 1) := by decide +kernel
theorem dX10_sizeOf_57 : decode cX10_sizeOf 57 = .ok (.ireturn, 1) := by decide +kernel
theorem dX10_sizeOf_58 : decode cX10_sizeOf 58 = .ok (.iconst 0, 1) := by decide +kernel
theorem dX10_sizeOf_59 : decode cX10_sizeOf 59 = .ok (.ireturn, 1) := by decide +kernel
theorem dX10_fits_0 : decode cX10_fits 0 = .ok (.aload_n 0, 1) := by decide +kernel
theorem dX10_fits_1 : decode cX10_fits 1 = .ok (.getfield 25, 3) := by decide +kernel
theorem dX10_fits_4 : decode cX10_fits 4 = .ok (.iload_n 1, 1) := by decide +kernel
theorem dX10_fits_5 : decode cX10_fits 5 = .ok (.iaload, 1) := by decide +kernel
theorem dX10_fits_6 : decode cX10_fits 6 = .ok (.invokestatic 141, 3) := by decide +kernel
theorem dX10_fits_9 : decode cX10_fits 9 = .ok (.istore_n 3, 1) := by decide +kernel
theorem dX10_fits_10 : decode cX10_fits 10 = .ok (.iload_n 2, 1) := by decide +kernel
theorem dX10_fits_11 : decode cX10_fits 11 = .ok (.ifCond .ne 13, 3) := by decide +kernel
theorem dX10_fits_14 : decode cX10_fits 14 = .ok (.iload_n 3, 1) := by decide +kernel
theorem dX10_fits_15 : decode cX10_fits 15 = .ok (.ifCond .le 7, 3) := by decide +kernel
theorem dX10_fits_18 : decode cX10_fits 18 = .ok (.iconst 1, 1) := by decide +kernel
theorem dX10_fits_19 : decode cX10_fits 19 = .ok (.goto 4, 3) := by decide +kernel
theorem dX10_fits_22 : decode cX10_fits 22 = .ok (.iconst 0, 1) := by decide +kernel
theorem dX10_fits_23 : decode cX10_fits 23 = .ok (.ireturn, 1) := by decide +kernel
theorem dX10_fits_24 : decode cX10_fits 24 = .ok (.aload_n 0, 1) := by decide +kernel
theorem dX10_fits_25 : decode cX10_fits 25 = .ok (.getfield 25, 3) := by decide +kernel
theorem dX10_fits_28 : decode cX10_fits 28 = .ok (.iload_n 1, 1) := by decide +kernel
theorem dX10_fits_29 : decode cX10_fits 29 = .ok (.iload_n 2, 1) := by decide +kernel
theorem dX10_fits_30 : decode cX10_fits 30 = .ok (.iadd, 1) := by decide +kernel
theorem dX10_fits_31 : decode cX10_fits 31 = .ok (.iaload, 1) := by decide +kernel
theorem dX10_fits_32 : decode cX10_fits 32 = .ok (.istore 4, 2) := by decide +kernel
theorem dX10_fits_34 : decode cX10_fits 34 = .ok (.iload_n 2, 1) := by decide +kernel
theorem dX10_fits_35 : decode cX10_fits 35 = .ok (.iload_n 3, 1) := by decide +kernel
theorem dX10_fits_36 : decode cX10_fits 36 = .ok (.if_icmp .ne 16, 3) := by decide +kernel
theorem dX10_fits_39 : decode cX10_fits 39 = .ok (.iload 4, 2) := by decide +kernel
theorem dX10_fits_41 : decode cX10_fits 41 = .ok (.bipush 59, 2) := by decide +kernel
theorem dX10_fits_43 : decode cX10_fits 43 = .ok (.if_icmp .ne 7, 3) := by decide +kernel
theorem dX10_fits_46 : decode cX10_fits 46 = .ok (.iconst 1, 1) := by decide +kernel
theorem dX10_fits_47 : decode cX10_fits 47 = .ok (.goto 4, 3) := by decide +kernel
theorem dX10_fits_50 : decode cX10_fits 50 = .ok (.iconst 0, 1) := by decide +kernel
theorem dX10_fits_51 : decode cX10_fits 51 = .ok (.ireturn, 1) := by decide +kernel
theorem dX10_fits_52 : decode cX10_fits 52 = .ok (.aload_n 0, 1) := by decide +kernel
theorem dX10_fits_53 : decode cX10_fits 53 = .ok (.getfield 25, 3) := by decide +kernel
theorem dX10_fits_56 : decode cX10_fits 56 = .ok (.iload_n 1, 1) := by decide +kernel
theorem dX10_fits_57 : decode cX10_fits 57 = .ok (.iaload, 1) := by decide +kernel
theorem dX10_fits_58 : decode cX10_fits 58 = .ok (.bipush 104, 2) := by decide +kernel
theorem dX10_fits_60 : decode cX10_fits 60 = .ok (.if_icmp .eq 19, 3) := by decide +kernel
theorem dX10_fits_63 : decode cX10_fits 63 = .ok (.aload_n 0, 1) := by decide +kernel
theorem dX10_fits_64 : decode cX10_fits 64 = .ok (.getfield 25, 3) := by decide +kernel
theorem dX10_fits_67 : decode cX10_fits 67 = .ok (.iload_n 1, 1) := by decide +kernel
theorem dX10_fits_68 : decode cX10_fits 68 = .ok (.iaload, 1) := by decide +kernel
theorem dX10_fits_69 : decode cX10_fits 69 = .ok (.bipush 115, 2) := by decide +kernel
theorem dX10_fits_71 : decode cX10_fits 71 = .ok (.if_icmp .ne 12, 3) := by decide +kernel
theorem dX10_fits_74 : decode cX10_fits 74 = .ok (.iload_n 2, 1) := by decide +kernel
theorem dX10_fits_75 : decode cX10_fits 75 = .ok (.iconst 3, 1) := by decide +kernel
theorem dX10_fits_76 : decode cX10_fits 76 = .ok (.if_icmp .ge 7, 3) := by decide +kernel
theorem dX10_fits_79 : decode cX10_fits 79 = .ok (.iconst 1, 1) := by decide +kernel
theorem dX10_fits_80 : decode cX10_fits 80 = .ok (.goto 4, 3) := by decide +kernel
theorem dX10_fits_83 : decode cX10_fits 83 = .ok (.iconst 0, 1) := by decide +kernel
theorem dX10_fits_84 : decode cX10_fits 84 = .ok (.istore 5, 2) := by decide +kernel
theorem dX10_fits_86 : decode cX10_fits 86 = .ok (.iload 5, 2) := by decide +kernel
theorem dX10_fits_88 : decode cX10_fits 88 = .ok (.ifCond .eq 18, 3) := by decide +kernel
theorem dX10_fits_91 : decode cX10_fits 91 = .ok (.iload 4, 2) := by decide +kernel
theorem dX10_fits_93 : decode cX10_fits 93 = .ok (.i2l, 1) := by decide +kernel
theorem dX10_fits_94 : decode cX10_fits 94 = .ok (.ldc2_w 144, 3) := by decide +kernel
theorem dX10_fits_97 : decode cX10_fits 97 = .ok (.ldc2_w 146, 3) := by decide +kernel
theorem dX10_fits_100 : decode cX10_fits 100 = .ok (.invokestatic 77, 3) := by decide +kernel
theorem dX10_fits_103 : decode cX10_fits 103 = .ok (.goto 15, 3) := by decide +kernel
theorem dX10_fits_106 : decode cX10_fits 106 = .ok (.iload 4, 2) := by decide +kernel
theorem dX10_fits_108 : decode cX10_fits 108 = .ok (.i2l, 1) := by decide +kernel
theorem dX10_fits_109 : decode cX10_fits 109 = .ok (.ldc2_w 148, 3) := by decide +kernel
theorem dX10_fits_112 : decode cX10_fits 112 = .ok (.ldc2_w 150, 3) := by decide +kernel
theorem dX10_fits_115 : decode cX10_fits 115 = .ok (.invokestatic 77, 3) := by decide +kernel
theorem dX10_fits_118 : decode cX10_fits 118 = .ok (.ireturn, 1) := by decide +kernel
theorem dX10_faultOf_0 : decode cX10_faultOf 0 = .ok (.iconst 0, 1) := by decide +kernel
theorem dX10_faultOf_1 : decode cX10_faultOf 1 = .ok (.istore_n 2, 1) := by decide +kernel
theorem dX10_faultOf_2 : decode cX10_faultOf 2 = .ok (.iload_n 2, 1) := by decide +kernel
theorem dX10_faultOf_3 : decode cX10_faultOf 3 = .ok (.iload_n 1, 1) := by decide +kernel
theorem dX10_faultOf_4 : decode cX10_faultOf 4 = .ok (.if_icmp .lt 7, 3) := by decide +kernel
theorem dX10_faultOf_7 : decode cX10_faultOf 7 = .ok (.iload_n 2, 1) := by decide +kernel
theorem dX10_faultOf_8 : decode cX10_faultOf 8 = .ok (.ifCond .ne 69, 3) := by decide +kernel
theorem dX10_faultOf_11 : decode cX10_faultOf 11 = .ok (.iconst 0, 1) := by decide +kernel
theorem dX10_faultOf_12 : decode cX10_faultOf 12 = .ok (.istore_n 3, 1) := by decide +kernel
theorem dX10_faultOf_13 : decode cX10_faultOf 13 = .ok (.iload_n 2, 1) := by decide +kernel
theorem dX10_faultOf_14 : decode cX10_faultOf 14 = .ok (.iload_n 3, 1) := by decide +kernel
theorem dX10_faultOf_15 : decode cX10_faultOf 15 = .ok (.iadd, 1) := by decide +kernel
theorem dX10_faultOf_16 : decode cX10_faultOf 16 = .ok (.iload_n 1, 1) := by decide +kernel
theorem dX10_faultOf_17 : decode cX10_faultOf 17 = .ok (.if_icmp .ge 31, 3) := by decide +kernel
theorem dX10_faultOf_20 : decode cX10_faultOf 20 = .ok (.aload_n 0, 1) := by decide +kernel
theorem dX10_faultOf_21 : decode cX10_faultOf 21 = .ok (.iload_n 2, 1) := by decide +kernel
theorem dX10_faultOf_22 : decode cX10_faultOf 22 = .ok (.iload_n 3, 1) := by decide +kernel
theorem dX10_faultOf_23 : decode cX10_faultOf 23 = .ok (.invokevirtual 152, 3) := by decide +kernel
theorem dX10_faultOf_26 : decode cX10_faultOf 26 = .ok (.ifCond .eq 22, 3) := by decide +kernel
theorem dX10_faultOf_29 : decode cX10_faultOf 29 = .ok (.iload_n 3, 1) := by decide +kernel
theorem dX10_faultOf_30 : decode cX10_faultOf 30 = .ok (.aload_n 0, 1) := by decide +kernel
theorem dX10_faultOf_31 : decode cX10_faultOf 31 = .ok (.getfield 25, 3) := by decide +kernel
theorem dX10_faultOf_34 : decode cX10_faultOf 34 = .ok (.iload_n 2, 1) := by decide +kernel
theorem dX10_faultOf_35 : decode cX10_faultOf 35 = .ok (.iaload, 1) := by decide +kernel
theorem dX10_faultOf_36 : decode cX10_faultOf 36 = .ok (.invokestatic 141, 3) := by decide +kernel
theorem dX10_faultOf_39 : decode cX10_faultOf 39 = .ok (.if_icmp .ge 9, 3) := by decide +kernel
theorem dX10_faultOf_42 : decode cX10_faultOf 42 = .ok (.iinc 3 1, 3) := by decide +kernel
theorem dX10_faultOf_45 : decode cX10_faultOf 45 = .ok (.goto (-32), 3) := by decide +kernel
theorem dX10_faultOf_48 : decode cX10_faultOf 48 = .ok (.iload_n 2, 1) := by decide +kernel
theorem dX10_faultOf_49 : decode cX10_faultOf 49 = .ok (.iload_n 3, 1) := by decide +kernel
theorem dX10_faultOf_50 : decode cX10_faultOf 50 = .ok (.iadd, 1) := by decide +kernel
theorem dX10_faultOf_51 : decode cX10_faultOf 51 = .ok (.iload_n 1, 1) := by decide +kernel
theorem dX10_faultOf_52 : decode cX10_faultOf 52 = .ok (.if_icmp .eq 12, 3) := by decide +kernel
theorem dX10_faultOf_55 : decode cX10_faultOf 55 = .ok (.aload_n 0, 1) := by decide +kernel
theorem dX10_faultOf_56 : decode cX10_faultOf 56 = .ok (.iload_n 2, 1) := by decide +kernel
theorem dX10_faultOf_57 : decode cX10_faultOf 57 = .ok (.iload_n 3, 1) := by decide +kernel
theorem dX10_faultOf_58 : decode cX10_faultOf 58 = .ok (.invokevirtual 152, 3) := by decide +kernel
theorem dX10_faultOf_61 : decode cX10_faultOf 61 = .ok (.ifCond .ne 7, 3) := by decide +kernel
theorem dX10_faultOf_64 : decode cX10_faultOf 64 = .ok (.iload_n 2, 1) := by decide +kernel
theorem dX10_faultOf_65 : decode cX10_faultOf 65 = .ok (.iload_n 3, 1) := by decide +kernel
theorem dX10_faultOf_66 : decode cX10_faultOf 66 = .ok (.iadd, 1) := by decide +kernel
theorem dX10_faultOf_67 : decode cX10_faultOf 67 = .ok (.ireturn, 1) := by decide +kernel
theorem dX10_faultOf_68 : decode cX10_faultOf 68 = .ok (.iload_n 2, 1) := by decide +kernel
theorem dX10_faultOf_69 : decode cX10_faultOf 69 = .ok (.iload_n 3, 1) := by decide +kernel
theorem dX10_faultOf_70 : decode cX10_faultOf 70 = .ok (.iconst 1, 1) := by decide +kernel
theorem dX10_faultOf_71 : decode cX10_faultOf 71 = .ok (.iadd, 1) := by decide +kernel
theorem dX10_faultOf_72 : decode cX10_faultOf 72 = .ok (.iadd, 1) := by decide +kernel
theorem dX10_faultOf_73 : decode cX10_faultOf 73 = .ok (.istore_n 2, 1) := by decide +kernel
theorem dX10_faultOf_74 : decode cX10_faultOf 74 = .ok (.goto (-72), 3) := by decide +kernel
theorem dX10_faultOf_77 : decode cX10_faultOf 77 = .ok (.bipush (-9), 2) := by decide +kernel
theorem dX10_faultOf_79 : decode cX10_faultOf 79 = .ok (.ireturn, 1) := by decide +kernel
theorem dX10_digit_0 : decode cX10_digit 0 = .ok (.aload_n 0, 1) := by decide +kernel
theorem dX10_digit_1 : decode cX10_digit 1 = .ok (.getfield 25, 3) := by decide +kernel
theorem dX10_digit_4 : decode cX10_digit 4 = .ok (.iload_n 1, 1) := by decide +kernel
theorem dX10_digit_5 : decode cX10_digit 5 = .ok (.iaload, 1) := by decide +kernel
theorem dX10_digit_6 : decode cX10_digit 6 = .ok (.bipush 48, 2) := by decide +kernel
theorem dX10_digit_8 : decode cX10_digit 8 = .ok (.isub, 1) := by decide +kernel
theorem dX10_digit_9 : decode cX10_digit 9 = .ok (.ireturn, 1) := by decide +kernel
theorem dX10_takes_0 : decode cX10_takes 0 = .ok (.aload_n 0, 1) := by decide +kernel
theorem dX10_takes_1 : decode cX10_takes 1 = .ok (.getfield 25, 3) := by decide +kernel
theorem dX10_takes_4 : decode cX10_takes 4 = .ok (.iload_n 2, 1) := by decide +kernel
theorem dX10_takes_5 : decode cX10_takes 5 = .ok (.iaload, 1) := by decide +kernel
theorem dX10_takes_6 : decode cX10_takes 6 = .ok (.istore_n 3, 1) := by decide +kernel
theorem dX10_takes_7 : decode cX10_takes 7 = .ok (.iload_n 3, 1) := by decide +kernel
theorem dX10_takes_8 : decode cX10_takes 8 = .ok (.bipush 115, 2) := by decide +kernel
theorem dX10_takes_10 : decode cX10_takes 10 = .ok (.if_icmp .ne 48, 3) := by decide +kernel
theorem dX10_takes_13 : decode cX10_takes 13 = .ok (.aload_n 1, 1) := by decide +kernel
theorem dX10_takes_14 : decode cX10_takes 14 = .ok (.aload_n 0, 1) := by decide +kernel
theorem dX10_takes_15 : decode cX10_takes 15 = .ok (.getfield 25, 3) := by decide +kernel
theorem dX10_takes_18 : decode cX10_takes 18 = .ok (.iload_n 2, 1) := by decide +kernel
theorem dX10_takes_19 : decode cX10_takes 19 = .ok (.iconst 1, 1) := by decide +kernel
theorem dX10_takes_20 : decode cX10_takes 20 = .ok (.iadd, 1) := by decide +kernel
theorem dX10_takes_21 : decode cX10_takes 21 = .ok (.iaload, 1) := by decide +kernel
theorem dX10_takes_22 : decode cX10_takes 22 = .ok (.bipush 97, 2) := by decide +kernel
theorem dX10_takes_24 : decode cX10_takes 24 = .ok (.isub, 1) := by decide +kernel
theorem dX10_takes_25 : decode cX10_takes 25 = .ok (.aload_n 0, 1) := by decide +kernel
theorem dX10_takes_26 : decode cX10_takes 26 = .ok (.getfield 25, 3) := by decide +kernel
theorem dX10_takes_29 : decode cX10_takes 29 = .ok (.iload_n 2, 1) := by decide +kernel
theorem dX10_takes_30 : decode cX10_takes 30 = .ok (.iconst 2, 1) := by decide +kernel
theorem dX10_takes_31 : decode cX10_takes 31 = .ok (.iadd, 1) := by decide +kernel
theorem dX10_takes_32 : decode cX10_takes 32 = .ok (.iaload, 1) := by decide +kernel
theorem dX10_takes_33 : decode cX10_takes 33 = .ok (.bipush 97, 2) := by decide +kernel
theorem dX10_takes_35 : decode cX10_takes 35 = .ok (.isub, 1) := by decide +kernel
theorem dX10_takes_36 : decode cX10_takes 36 = .ok (.bipush 10, 2) := by decide +kernel
theorem dX10_takes_38 : decode cX10_takes 38 = .ok (.aload_n 0, 1) := by decide +kernel
theorem dX10_takes_39 : decode cX10_takes 39 = .ok (.iload_n 2, 1) := by decide +kernel
theorem dX10_takes_40 : decode cX10_takes 40 = .ok (.iconst 3, 1) := by decide +kernel
theorem dX10_takes_41 : decode cX10_takes 41 = .ok (.iadd, 1) := by decide +kernel
theorem dX10_takes_42 : decode cX10_takes 42 = .ok (.invokevirtual 156, 3) := by decide +kernel
theorem dX10_takes_45 : decode cX10_takes 45 = .ok (.imul, 1) := by decide +kernel
theorem dX10_takes_46 : decode cX10_takes 46 = .ok (.aload_n 0, 1) := by decide +kernel
theorem dX10_takes_47 : decode cX10_takes 47 = .ok (.iload_n 2, 1) := by decide +kernel
theorem dX10_takes_48 : decode cX10_takes 48 = .ok (.iconst 4, 1) := by decide +kernel
theorem dX10_takes_49 : decode cX10_takes 49 = .ok (.iadd, 1) := by decide +kernel
theorem dX10_takes_50 : decode cX10_takes 50 = .ok (.invokevirtual 156, 3) := by decide +kernel
theorem dX10_takes_53 : decode cX10_takes 53 = .ok (.iadd, 1) := by decide +kernel
theorem dX10_takes_54 : decode cX10_takes 54 = .ok (.invokestatic 159, 3) := by decide +kernel
theorem dX10_takes_57 : decode cX10_takes 57 = .ok (.ireturn, 1) := by decide +kernel
theorem dX10_takes_58 : decode cX10_takes 58 = .ok (.iload_n 3, 1) := by decide +kernel
theorem dX10_takes_59 : decode cX10_takes 59 = .ok (.bipush 104, 2) := by decide +kernel
theorem dX10_takes_61 : decode cX10_takes 61 = .ok (.if_icmp .ne 43, 3) := by decide +kernel
theorem dX10_takes_64 : decode cX10_takes 64 = .ok (.aload_n 0, 1) := by decide +kernel
theorem dX10_takes_65 : decode cX10_takes 65 = .ok (.getfield 25, 3) := by decide +kernel
theorem dX10_takes_68 : decode cX10_takes 68 = .ok (.iload_n 2, 1) := by decide +kernel
theorem dX10_takes_69 : decode cX10_takes 69 = .ok (.iconst 1, 1) := by decide +kernel
theorem dX10_takes_70 : decode cX10_takes 70 = .ok (.iadd, 1) := by decide +kernel
theorem dX10_takes_71 : decode cX10_takes 71 = .ok (.iaload, 1) := by decide +kernel
theorem dX10_takes_72 : decode cX10_takes 72 = .ok (.bipush 97, 2) := by decide +kernel
theorem dX10_takes_74 : decode cX10_takes 74 = .ok (.isub, 1) := by decide +kernel
theorem dX10_takes_75 : decode cX10_takes 75 = .ok (.istore 4, 2) := by decide +kernel
theorem dX10_takes_77 : decode cX10_takes 77 = .ok (.aload_n 1, 1) := by decide +kernel
theorem dX10_takes_78 : decode cX10_takes 78 = .ok (.bipush 48, 2) := by decide +kernel
theorem dX10_takes_80 : decode cX10_takes 80 = .ok (.iload 4, 2) := by decide +kernel
theorem dX10_takes_82 : decode cX10_takes 82 = .ok (.invokestatic 92, 3) := by decide +kernel
theorem dX10_takes_85 : decode cX10_takes 85 = .ok (.ifCond .eq 8, 3) := by decide +kernel
theorem dX10_takes_88 : decode cX10_takes 88 = .ok (.iload 4, 2) := by decide +kernel
theorem dX10_takes_90 : decode cX10_takes 90 = .ok (.goto 7, 3) := by decide +kernel
theorem dX10_takes_93 : decode cX10_takes 93 = .ok (.aload_n 1, 1) := by decide +kernel
theorem dX10_takes_94 : decode cX10_takes 94 = .ok (.bipush 48, 2) := by decide +kernel
theorem dX10_takes_96 : decode cX10_takes 96 = .ok (.iaload, 1) := by decide +kernel
theorem dX10_takes_97 : decode cX10_takes 97 = .ok (.iastore, 1) := by decide +kernel
theorem dX10_takes_98 : decode cX10_takes 98 = .ok (.iload 4, 2) := by decide +kernel
theorem dX10_takes_100 : decode cX10_takes 100 = .ok (.invokestatic 92, 3) := by decide +kernel
theorem dX10_takes_103 : decode cX10_takes 103 = .ok (.ireturn, 1) := by decide +kernel
theorem dX10_takes_104 : decode cX10_takes 104 = .ok (.aload_n 0, 1) := by decide +kernel
theorem dX10_takes_105 : decode cX10_takes 105 = .ok (.iload_n 2, 1) := by decide +kernel
theorem dX10_takes_106 : decode cX10_takes 106 = .ok (.iconst 1, 1) := by decide +kernel
theorem dX10_takes_107 : decode cX10_takes 107 = .ok (.iadd, 1) := by decide +kernel
theorem dX10_takes_108 : decode cX10_takes 108 = .ok (.invokevirtual 156, 3) := by decide +kernel
theorem dX10_takes_111 : decode cX10_takes 111 = .ok (.istore 4, 2) := by decide +kernel
theorem dX10_takes_113 : decode cX10_takes 113 = .ok (.aload_n 1, 1) := by decide +kernel
theorem dX10_takes_114 : decode cX10_takes 114 = .ok (.iload 4, 2) := by decide +kernel
theorem dX10_takes_116 : decode cX10_takes 116 = .ok (.invokestatic 163, 3) := by decide +kernel
theorem dX10_takes_119 : decode cX10_takes 119 = .ok (.ifCond .ne 5, 3) := by decide +kernel
theorem dX10_takes_122 : decode cX10_takes 122 = .ok (.iconst 0, 1) := by decide +kernel
theorem dX10_takes_123 : decode cX10_takes 123 = .ok (.ireturn, 1) := by decide +kernel
theorem dX10_takes_124 : decode cX10_takes 124 = .ok (.iload_n 3, 1) := by decide +kernel
theorem dX10_takes_125 : decode cX10_takes 125 = .ok (.bipush 120, 2) := by decide +kernel
theorem dX10_takes_127 : decode cX10_takes 127 = .ok (.if_icmp .ne 21, 3) := by decide +kernel
theorem dX10_takes_130 : decode cX10_takes 130 = .ok (.aload_n 1, 1) := by decide +kernel
theorem dX10_takes_131 : decode cX10_takes 131 = .ok (.bipush 40, 2) := by decide +kernel
theorem dX10_takes_133 : decode cX10_takes 133 = .ok (.iload 4, 2) := by decide +kernel
theorem dX10_takes_135 : decode cX10_takes 135 = .ok (.iadd, 1) := by decide +kernel
theorem dX10_takes_136 : decode cX10_takes 136 = .ok (.iconst 1, 1) := by decide +kernel
theorem dX10_takes_137 : decode cX10_takes 137 = .ok (.aload_n 1, 1) := by decide +kernel
theorem dX10_takes_138 : decode cX10_takes 138 = .ok (.bipush 40, 2) := by decide +kernel
theorem dX10_takes_140 : decode cX10_takes 140 = .ok (.iload 4, 2) := by decide +kernel
theorem dX10_takes_142 : decode cX10_takes 142 = .ok (.iadd, 1) := by decide +kernel
theorem dX10_takes_143 : decode cX10_takes 143 = .ok (.iaload, 1) := by decide +kernel
theorem dX10_takes_144 : decode cX10_takes 144 = .ok (.isub, 1) := by decide +kernel
theorem dX10_takes_145 : decode cX10_takes 145 = .ok (.iastore, 1) := by decide +kernel
theorem dX10_takes_146 : decode cX10_takes 146 = .ok (.iconst 1, 1) := by decide +kernel
theorem dX10_takes_147 : decode cX10_takes 147 = .ok (.ireturn, 1) := by decide +kernel
theorem dX10_takes_148 : decode cX10_takes 148 = .ok (.iload_n 3, 1) := by decide +kernel
theorem dX10_takes_149 : decode cX10_takes 149 = .ok (.bipush 108, 2) := by decide +kernel
theorem dX10_takes_151 : decode cX10_takes 151 = .ok (.if_icmp .ne 44, 3) := by decide +kernel
theorem dX10_takes_154 : decode cX10_takes 154 = .ok (.aload_n 1, 1) := by decide +kernel
theorem dX10_takes_155 : decode cX10_takes 155 = .ok (.bipush 16, 2) := by decide +kernel
theorem dX10_takes_157 : decode cX10_takes 157 = .ok (.iload 4, 2) := by decide +kernel
theorem dX10_takes_159 : decode cX10_takes 159 = .ok (.iadd, 1) := by decide +kernel
theorem dX10_takes_160 : decode cX10_takes 160 = .ok (.bipush 10, 2) := by decide +kernel
theorem dX10_takes_162 : decode cX10_takes 162 = .ok (.aload_n 0, 1) := by decide +kernel
theorem dX10_takes_163 : decode cX10_takes 163 = .ok (.iload_n 2, 1) := by decide +kernel
theorem dX10_takes_164 : decode cX10_takes 164 = .ok (.iconst 2, 1) := by decide +kernel
theorem dX10_takes_165 : decode cX10_takes 165 = .ok (.iadd, 1) := by decide +kernel
theorem dX10_takes_166 : decode cX10_takes 166 = .ok (.invokevirtual 156, 3) := by decide +kernel
theorem dX10_takes_169 : decode cX10_takes 169 = .ok (.imul, 1) := by decide +kernel
theorem dX10_takes_170 : decode cX10_takes 170 = .ok (.aload_n 0, 1) := by decide +kernel
theorem dX10_takes_171 : decode cX10_takes 171 = .ok (.iload_n 2, 1) := by decide +kernel
theorem dX10_takes_172 : decode cX10_takes 172 = .ok (.iconst 3, 1) := by decide +kernel
theorem dX10_takes_173 : decode cX10_takes 173 = .ok (.iadd, 1) := by decide +kernel
theorem dX10_takes_174 : decode cX10_takes 174 = .ok (.invokevirtual 156, 3) := by decide +kernel
theorem dX10_takes_177 : decode cX10_takes 177 = .ok (.iadd, 1) := by decide +kernel
theorem dX10_takes_178 : decode cX10_takes 178 = .ok (.iastore, 1) := by decide +kernel
theorem dX10_takes_179 : decode cX10_takes 179 = .ok (.aload_n 1, 1) := by decide +kernel
theorem dX10_takes_180 : decode cX10_takes 180 = .ok (.bipush 16, 2) := by decide +kernel
theorem dX10_takes_182 : decode cX10_takes 182 = .ok (.iload 4, 2) := by decide +kernel
theorem dX10_takes_184 : decode cX10_takes 184 = .ok (.iadd, 1) := by decide +kernel
theorem dX10_takes_185 : decode cX10_takes 185 = .ok (.iaload, 1) := by decide +kernel
theorem dX10_takes_186 : decode cX10_takes 186 = .ok (.ifCond .le 7, 3) := by decide +kernel
theorem dX10_takes_189 : decode cX10_takes 189 = .ok (.iconst 1, 1) := by decide +kernel
theorem dX10_takes_190 : decode cX10_takes 190 = .ok (.goto 4, 3) := by decide +kernel
theorem dX10_takes_193 : decode cX10_takes 193 = .ok (.iconst 0, 1) := by decide +kernel
theorem dX10_takes_194 : decode cX10_takes 194 = .ok (.ireturn, 1) := by decide +kernel
theorem dX10_takes_195 : decode cX10_takes 195 = .ok (.aload_n 1, 1) := by decide +kernel
theorem dX10_takes_196 : decode cX10_takes 196 = .ok (.bipush 24, 2) := by decide +kernel
theorem dX10_takes_198 : decode cX10_takes 198 = .ok (.iload 4, 2) := by decide +kernel
theorem dX10_takes_200 : decode cX10_takes 200 = .ok (.iadd, 1) := by decide +kernel
theorem dX10_takes_201 : decode cX10_takes 201 = .ok (.aload_n 0, 1) := by decide +kernel
theorem dX10_takes_202 : decode cX10_takes 202 = .ok (.iload_n 2, 1) := by decide +kernel
theorem dX10_takes_203 : decode cX10_takes 203 = .ok (.iconst 2, 1) := by decide +kernel
theorem dX10_takes_204 : decode cX10_takes 204 = .ok (.iadd, 1) := by decide +kernel
theorem dX10_takes_205 : decode cX10_takes 205 = .ok (.invokevirtual 156, 3) := by decide +kernel
theorem dX10_takes_208 : decode cX10_takes 208 = .ok (.iastore, 1) := by decide +kernel
theorem dX10_takes_209 : decode cX10_takes 209 = .ok (.aload_n 1, 1) := by decide +kernel
theorem dX10_takes_210 : decode cX10_takes 210 = .ok (.bipush 32, 2) := by decide +kernel
theorem dX10_takes_212 : decode cX10_takes 212 = .ok (.iload 4, 2) := by decide +kernel
theorem dX10_takes_214 : decode cX10_takes 214 = .ok (.iadd, 1) := by decide +kernel
theorem dX10_takes_215 : decode cX10_takes 215 = .ok (.aload_n 0, 1) := by decide +kernel
theorem dX10_takes_216 : decode cX10_takes 216 = .ok (.iload_n 2, 1) := by decide +kernel
theorem dX10_takes_217 : decode cX10_takes 217 = .ok (.iconst 3, 1) := by decide +kernel
theorem dX10_takes_218 : decode cX10_takes 218 = .ok (.iadd, 1) := by decide +kernel
theorem dX10_takes_219 : decode cX10_takes 219 = .ok (.invokevirtual 156, 3) := by decide +kernel
theorem dX10_takes_222 : decode cX10_takes 222 = .ok (.iastore, 1) := by decide +kernel
theorem dX10_takes_223 : decode cX10_takes 223 = .ok (.aload_n 1, 1) := by decide +kernel
theorem dX10_takes_224 : decode cX10_takes 224 = .ok (.bipush 24, 2) := by decide +kernel
theorem dX10_takes_226 : decode cX10_takes 226 = .ok (.iload 4, 2) := by decide +kernel
theorem dX10_takes_228 : decode cX10_takes 228 = .ok (.iadd, 1) := by decide +kernel
theorem dX10_takes_229 : decode cX10_takes 229 = .ok (.iaload, 1) := by decide +kernel
theorem dX10_takes_230 : decode cX10_takes 230 = .ok (.iconst 5, 1) := by decide +kernel
theorem dX10_takes_231 : decode cX10_takes 231 = .ok (.if_icmp .gt 7, 3) := by decide +kernel
theorem dX10_takes_234 : decode cX10_takes 234 = .ok (.iconst 1, 1) := by decide +kernel
theorem dX10_takes_235 : decode cX10_takes 235 = .ok (.goto 4, 3) := by decide +kernel
theorem dX10_takes_238 : decode cX10_takes 238 = .ok (.iconst 0, 1) := by decide +kernel
theorem dX10_takes_239 : decode cX10_takes 239 = .ok (.ireturn, 1) := by decide +kernel
theorem dX10_map_0 : decode cX10_map 0 = .ok (.aload_n 0, 1) := by decide +kernel
theorem dX10_map_1 : decode cX10_map 1 = .ok (.getfield 138, 3) := by decide +kernel
theorem dX10_map_4 : decode cX10_map 4 = .ok (.istore_n 1, 1) := by decide +kernel
theorem dX10_map_5 : decode cX10_map 5 = .ok (.aload_n 0, 1) := by decide +kernel
theorem dX10_map_6 : decode cX10_map 6 = .ok (.iconst 0, 1) := by decide +kernel
theorem dX10_map_7 : decode cX10_map 7 = .ok (.putfield 138, 3) := by decide +kernel
theorem dX10_map_10 : decode cX10_map 10 = .ok (.aload_n 0, 1) := by decide +kernel
theorem dX10_map_11 : decode cX10_map 11 = .ok (.iload_n 1, 1) := by decide +kernel
theorem dX10_map_12 : decode cX10_map 12 = .ok (.invokevirtual 166, 3) := by decide +kernel
theorem dX10_map_15 : decode cX10_map 15 = .ok (.istore_n 2, 1) := by decide +kernel
theorem dX10_map_16 : decode cX10_map 16 = .ok (.iload_n 2, 1) := by decide +kernel
theorem dX10_map_17 : decode cX10_map 17 = .ok (.ifCond .lt 9, 3) := by decide +kernel
theorem dX10_map_20 : decode cX10_map 20 = .ok (.sipush (-1000), 3) := by decide +kernel
theorem dX10_map_23 : decode cX10_map 23 = .ok (.iload_n 2, 1) := by decide +kernel
theorem dX10_map_24 : decode cX10_map 24 = .ok (.isub, 1) := by decide +kernel
theorem dX10_map_25 : decode cX10_map 25 = .ok (.ireturn, 1) := by decide +kernel
theorem dX10_map_26 : decode cX10_map 26 = .ok (.aload_n 0, 1) := by decide +kernel
theorem dX10_map_27 : decode cX10_map 27 = .ok (.invokevirtual 169, 3) := by decide +kernel
theorem dX10_map_30 : decode cX10_map 30 = .ok (.astore_n 3, 1) := by decide +kernel
theorem dX10_map_31 : decode cX10_map 31 = .ok (.iconst 0, 1) := by decide +kernel
theorem dX10_map_32 : decode cX10_map 32 = .ok (.istore 4, 2) := by decide +kernel
theorem dX10_map_34 : decode cX10_map 34 = .ok (.iconst 0, 1) := by decide +kernel
theorem dX10_map_35 : decode cX10_map 35 = .ok (.istore 5, 2) := by decide +kernel
theorem dX10_map_37 : decode cX10_map 37 = .ok (.iload 5, 2) := by decide +kernel
theorem dX10_map_39 : decode cX10_map 39 = .ok (.iload_n 1, 1) := by decide +kernel
theorem dX10_map_40 : decode cX10_map 40 = .ok (.if_icmp .ge 43, 3) := by decide +kernel
theorem dX10_map_43 : decode cX10_map 43 = .ok (.aload_n 0, 1) := by decide +kernel
theorem dX10_map_44 : decode cX10_map 44 = .ok (.aload_n 3, 1) := by decide +kernel
theorem dX10_map_45 : decode cX10_map 45 = .ok (.iload 5, 2) := by decide +kernel
theorem dX10_map_47 : decode cX10_map 47 = .ok (.invokevirtual 173, 3) := by decide +kernel
theorem dX10_map_50 : decode cX10_map 50 = .ok (.ifCond .ne 10, 3) := by decide +kernel
theorem dX10_map_53 : decode cX10_map 53 = .ok (.sipush (-2000), 3) := by decide +kernel
theorem dX10_map_56 : decode cX10_map 56 = .ok (.iload 5, 2) := by decide +kernel
theorem dX10_map_58 : decode cX10_map 58 = .ok (.isub, 1) := by decide +kernel
theorem dX10_map_59 : decode cX10_map 59 = .ok (.ireturn, 1) := by decide +kernel
theorem dX10_map_60 : decode cX10_map 60 = .ok (.iload 5, 2) := by decide +kernel
theorem dX10_map_62 : decode cX10_map 62 = .ok (.aload_n 0, 1) := by decide +kernel
theorem dX10_map_63 : decode cX10_map 63 = .ok (.getfield 25, 3) := by decide +kernel
theorem dX10_map_66 : decode cX10_map 66 = .ok (.iload 5, 2) := by decide +kernel
theorem dX10_map_68 : decode cX10_map 68 = .ok (.iaload, 1) := by decide +kernel
theorem dX10_map_69 : decode cX10_map 69 = .ok (.invokestatic 141, 3) := by decide +kernel
theorem dX10_map_72 : decode cX10_map 72 = .ok (.iconst 1, 1) := by decide +kernel
theorem dX10_map_73 : decode cX10_map 73 = .ok (.iadd, 1) := by decide +kernel
theorem dX10_map_74 : decode cX10_map 74 = .ok (.iadd, 1) := by decide +kernel
theorem dX10_map_75 : decode cX10_map 75 = .ok (.istore 5, 2) := by decide +kernel
theorem dX10_map_77 : decode cX10_map 77 = .ok (.iinc 4 1, 3) := by decide +kernel
theorem dX10_map_80 : decode cX10_map 80 = .ok (.goto (-43), 3) := by decide +kernel
theorem dX10_map_83 : decode cX10_map 83 = .ok (.aload_n 3, 1) := by decide +kernel
theorem dX10_map_84 : decode cX10_map 84 = .ok (.aload_n 0, 1) := by decide +kernel
theorem dX10_map_85 : decode cX10_map 85 = .ok (.getfield 9, 3) := by decide +kernel
theorem dX10_map_88 : decode cX10_map 88 = .ok (.invokestatic 71, 3) := by decide +kernel
theorem dX10_map_91 : decode cX10_map 91 = .ok (.iload 4, 2) := by decide +kernel
theorem dX10_map_93 : decode cX10_map 93 = .ok (.ireturn, 1) := by decide +kernel
theorem dX10_streets_0 : decode cX10_streets 0 = .ok (.iload_n 1, 1) := by decide +kernel
theorem dX10_streets_1 : decode cX10_streets 1 = .ok (.invokestatic 92, 3) := by decide +kernel
theorem dX10_streets_4 : decode cX10_streets 4 = .ok (.ifCond .eq 10, 3) := by decide +kernel
theorem dX10_streets_7 : decode cX10_streets 7 = .ok (.iload_n 2, 1) := by decide +kernel
theorem dX10_streets_8 : decode cX10_streets 8 = .ok (.invokestatic 92, 3) := by decide +kernel
theorem dX10_streets_11 : decode cX10_streets 11 = .ok (.ifCond .ne 9, 3) := by decide +kernel
theorem dX10_streets_14 : decode cX10_streets 14 = .ok (.aload_n 0, 1) := by decide +kernel
theorem dX10_streets_15 : decode cX10_streets 15 = .ok (.iconst (-1), 1) := by decide +kernel
theorem dX10_streets_16 : decode cX10_streets 16 = .ok (.invokevirtual 66, 3) := by decide +kernel
theorem dX10_streets_19 : decode cX10_streets 19 = .ok (.ireturn, 1) := by decide +kernel
theorem dX10_streets_20 : decode cX10_streets 20 = .ok (.iload_n 1, 1) := by decide +kernel
theorem dX10_streets_21 : decode cX10_streets 21 = .ok (.iload_n 2, 1) := by decide +kernel
theorem dX10_streets_22 : decode cX10_streets 22 = .ok (.if_icmp .ne 10, 3) := by decide +kernel
theorem dX10_streets_25 : decode cX10_streets 25 = .ok (.aload_n 0, 1) := by decide +kernel
theorem dX10_streets_26 : decode cX10_streets 26 = .ok (.bipush (-3), 2) := by decide +kernel
theorem dX10_streets_28 : decode cX10_streets 28 = .ok (.invokevirtual 66, 3) := by decide +kernel
theorem dX10_streets_31 : decode cX10_streets 31 = .ok (.ireturn, 1) := by decide +kernel
theorem dX10_streets_32 : decode cX10_streets 32 = .ok (.iload_n 3, 1) := by decide +kernel
theorem dX10_streets_33 : decode cX10_streets 33 = .ok (.iconst 1, 1) := by decide +kernel
theorem dX10_streets_34 : decode cX10_streets 34 = .ok (.if_icmp .ge 10, 3) := by decide +kernel
theorem dX10_streets_37 : decode cX10_streets 37 = .ok (.aload_n 0, 1) := by decide +kernel
theorem dX10_streets_38 : decode cX10_streets 38 = .ok (.bipush (-4), 2) := by decide +kernel
theorem dX10_streets_40 : decode cX10_streets 40 = .ok (.invokevirtual 66, 3) := by decide +kernel
theorem dX10_streets_43 : decode cX10_streets 43 = .ok (.ireturn, 1) := by decide +kernel
theorem dX10_streets_44 : decode cX10_streets 44 = .ok (.aload_n 0, 1) := by decide +kernel
theorem dX10_streets_45 : decode cX10_streets 45 = .ok (.getfield 9, 3) := by decide +kernel
theorem dX10_streets_48 : decode cX10_streets 48 = .ok (.iload_n 1, 1) := by decide +kernel
theorem dX10_streets_49 : decode cX10_streets 49 = .ok (.iload_n 2, 1) := by decide +kernel
theorem dX10_streets_50 : decode cX10_streets 50 = .ok (.iload_n 3, 1) := by decide +kernel
theorem dX10_streets_51 : decode cX10_streets 51 = .ok (.invokestatic 159, 3) := by decide +kernel
theorem dX10_streets_54 : decode cX10_streets 54 = .ok (.ifCond .eq 15, 3) := by decide +kernel
theorem dX10_streets_57 : decode cX10_streets 57 = .ok (.aload_n 0, 1) := by decide +kernel
theorem dX10_streets_58 : decode cX10_streets 58 = .ok (.getfield 9, 3) := by decide +kernel
theorem dX10_streets_61 : decode cX10_streets 61 = .ok (.bipush 49, 2) := by decide +kernel
theorem dX10_streets_63 : decode cX10_streets 63 = .ok (.iaload, 1) := by decide +kernel
theorem dX10_streets_64 : decode cX10_streets 64 = .ok (.iconst 1, 1) := by decide +kernel
theorem dX10_streets_65 : decode cX10_streets 65 = .ok (.isub, 1) := by decide +kernel
theorem dX10_streets_66 : decode cX10_streets 66 = .ok (.goto 9, 3) := by decide +kernel
theorem dX10_streets_69 : decode cX10_streets 69 = .ok (.aload_n 0, 1) := by decide +kernel
theorem dX10_streets_70 : decode cX10_streets 70 = .ok (.bipush (-6), 2) := by decide +kernel
theorem dX10_streets_72 : decode cX10_streets 72 = .ok (.invokevirtual 66, 3) := by decide +kernel
theorem dX10_streets_75 : decode cX10_streets 75 = .ok (.ireturn, 1) := by decide +kernel
theorem dX10_turns_0 : decode cX10_turns 0 = .ok (.aload_n 0, 1) := by decide +kernel
theorem dX10_turns_1 : decode cX10_turns 1 = .ok (.getfield 9, 3) := by decide +kernel
theorem dX10_turns_4 : decode cX10_turns 4 = .ok (.iload_n 1, 1) := by decide +kernel
theorem dX10_turns_5 : decode cX10_turns 5 = .ok (.invokestatic 163, 3) := by decide +kernel
theorem dX10_turns_8 : decode cX10_turns 8 = .ok (.ifCond .ne 9, 3) := by decide +kernel
theorem dX10_turns_11 : decode cX10_turns 11 = .ok (.aload_n 0, 1) := by decide +kernel
theorem dX10_turns_12 : decode cX10_turns 12 = .ok (.iconst (-1), 1) := by decide +kernel
theorem dX10_turns_13 : decode cX10_turns 13 = .ok (.invokevirtual 66, 3) := by decide +kernel
theorem dX10_turns_16 : decode cX10_turns 16 = .ok (.ireturn, 1) := by decide +kernel
theorem dX10_turns_17 : decode cX10_turns 17 = .ok (.aload_n 0, 1) := by decide +kernel
theorem dX10_turns_18 : decode cX10_turns 18 = .ok (.getfield 9, 3) := by decide +kernel
theorem dX10_turns_21 : decode cX10_turns 21 = .ok (.bipush 40, 2) := by decide +kernel
theorem dX10_turns_23 : decode cX10_turns 23 = .ok (.iload_n 1, 1) := by decide +kernel
theorem dX10_turns_24 : decode cX10_turns 24 = .ok (.iadd, 1) := by decide +kernel
theorem dX10_turns_25 : decode cX10_turns 25 = .ok (.iconst 1, 1) := by decide +kernel
theorem dX10_turns_26 : decode cX10_turns 26 = .ok (.aload_n 0, 1) := by decide +kernel
theorem dX10_turns_27 : decode cX10_turns 27 = .ok (.getfield 9, 3) := by decide +kernel
theorem dX10_turns_30 : decode cX10_turns 30 = .ok (.bipush 40, 2) := by decide +kernel
theorem dX10_turns_32 : decode cX10_turns 32 = .ok (.iload_n 1, 1) := by decide +kernel
theorem dX10_turns_33 : decode cX10_turns 33 = .ok (.iadd, 1) := by decide +kernel
theorem dX10_turns_34 : decode cX10_turns 34 = .ok (.iaload, 1) := by decide +kernel
theorem dX10_turns_35 : decode cX10_turns 35 = .ok (.isub, 1) := by decide +kernel
theorem dX10_turns_36 : decode cX10_turns 36 = .ok (.iastore, 1) := by decide +kernel
theorem dX10_turns_37 : decode cX10_turns 37 = .ok (.aload_n 0, 1) := by decide +kernel
theorem dX10_turns_38 : decode cX10_turns 38 = .ok (.getfield 9, 3) := by decide +kernel
theorem dX10_turns_41 : decode cX10_turns 41 = .ok (.bipush 40, 2) := by decide +kernel
theorem dX10_turns_43 : decode cX10_turns 43 = .ok (.iload_n 1, 1) := by decide +kernel
theorem dX10_turns_44 : decode cX10_turns 44 = .ok (.iadd, 1) := by decide +kernel
theorem dX10_turns_45 : decode cX10_turns 45 = .ok (.iaload, 1) := by decide +kernel
theorem dX10_turns_46 : decode cX10_turns 46 = .ok (.ireturn, 1) := by decide +kernel
theorem dX10_length_0 : decode cX10_length 0 = .ok (.aload_n 0, 1) := by decide +kernel
theorem dX10_length_1 : decode cX10_length 1 = .ok (.getfield 9, 3) := by decide +kernel
theorem dX10_length_4 : decode cX10_length 4 = .ok (.iload_n 1, 1) := by decide +kernel
theorem dX10_length_5 : decode cX10_length 5 = .ok (.invokestatic 163, 3) := by decide +kernel
theorem dX10_length_8 : decode cX10_length 8 = .ok (.ifCond .ne 9, 3) := by decide +kernel
theorem dX10_length_11 : decode cX10_length 11 = .ok (.aload_n 0, 1) := by decide +kernel
theorem dX10_length_12 : decode cX10_length 12 = .ok (.iconst (-1), 1) := by decide +kernel
theorem dX10_length_13 : decode cX10_length 13 = .ok (.invokevirtual 66, 3) := by decide +kernel
theorem dX10_length_16 : decode cX10_length 16 = .ok (.ireturn, 1) := by decide +kernel
theorem dX10_length_17 : decode cX10_length 17 = .ok (.iload_n 2, 1) := by decide +kernel
theorem dX10_length_18 : decode cX10_length 18 = .ok (.i2l, 1) := by decide +kernel
theorem dX10_length_19 : decode cX10_length 19 = .ok (.lconst 1, 1) := by decide +kernel
theorem dX10_length_20 : decode cX10_length 20 = .ok (.ldc2_w 96, 3) := by decide +kernel
theorem dX10_length_23 : decode cX10_length 23 = .ok (.invokestatic 77, 3) := by decide +kernel
theorem dX10_length_26 : decode cX10_length 26 = .ok (.ifCond .ne 20, 3) := by decide +kernel
theorem dX10_length_29 : decode cX10_length 29 = .ok (.aload_n 0, 1) := by decide +kernel
theorem dX10_length_30 : decode cX10_length 30 = .ok (.iload_n 2, 1) := by decide +kernel
theorem dX10_length_31 : decode cX10_length 31 = .ok (.iconst 1, 1) := by decide +kernel
theorem dX10_length_32 : decode cX10_length 32 = .ok (.if_icmp .ge 8, 3) := by decide +kernel
theorem dX10_length_35 : decode cX10_length 35 = .ok (.bipush (-4), 2) := by decide +kernel
theorem dX10_length_37 : decode cX10_length 37 = .ok (.goto 5, 3) := by decide +kernel
theorem dX10_length_40 : decode cX10_length 40 = .ok (.bipush (-6), 2) := by decide +kernel
theorem dX10_length_42 : decode cX10_length 42 = .ok (.invokevirtual 66, 3) := by decide +kernel
theorem dX10_length_45 : decode cX10_length 45 = .ok (.ireturn, 1) := by decide +kernel
theorem dX10_length_46 : decode cX10_length 46 = .ok (.aload_n 0, 1) := by decide +kernel
theorem dX10_length_47 : decode cX10_length 47 = .ok (.getfield 9, 3) := by decide +kernel
theorem dX10_length_50 : decode cX10_length 50 = .ok (.bipush 16, 2) := by decide +kernel
theorem dX10_length_52 : decode cX10_length 52 = .ok (.iload_n 1, 1) := by decide +kernel
theorem dX10_length_53 : decode cX10_length 53 = .ok (.iadd, 1) := by decide +kernel
theorem dX10_length_54 : decode cX10_length 54 = .ok (.iaload, 1) := by decide +kernel
theorem dX10_length_55 : decode cX10_length 55 = .ok (.istore_n 3, 1) := by decide +kernel
theorem dX10_length_56 : decode cX10_length 56 = .ok (.aload_n 0, 1) := by decide +kernel
theorem dX10_length_57 : decode cX10_length 57 = .ok (.getfield 9, 3) := by decide +kernel
theorem dX10_length_60 : decode cX10_length 60 = .ok (.bipush 16, 2) := by decide +kernel
theorem dX10_length_62 : decode cX10_length 62 = .ok (.iload_n 1, 1) := by decide +kernel
theorem dX10_length_63 : decode cX10_length 63 = .ok (.iadd, 1) := by decide +kernel
theorem dX10_length_64 : decode cX10_length 64 = .ok (.iload_n 2, 1) := by decide +kernel
theorem dX10_length_65 : decode cX10_length 65 = .ok (.iastore, 1) := by decide +kernel
theorem dX10_length_66 : decode cX10_length 66 = .ok (.iload_n 3, 1) := by decide +kernel
theorem dX10_length_67 : decode cX10_length 67 = .ok (.ireturn, 1) := by decide +kernel
theorem dX10_kind_0 : decode cX10_kind 0 = .ok (.aload_n 0, 1) := by decide +kernel
theorem dX10_kind_1 : decode cX10_kind 1 = .ok (.getfield 9, 3) := by decide +kernel
theorem dX10_kind_4 : decode cX10_kind 4 = .ok (.iload_n 1, 1) := by decide +kernel
theorem dX10_kind_5 : decode cX10_kind 5 = .ok (.invokestatic 163, 3) := by decide +kernel
theorem dX10_kind_8 : decode cX10_kind 8 = .ok (.ifCond .ne 9, 3) := by decide +kernel
theorem dX10_kind_11 : decode cX10_kind 11 = .ok (.aload_n 0, 1) := by decide +kernel
theorem dX10_kind_12 : decode cX10_kind 12 = .ok (.iconst (-1), 1) := by decide +kernel
theorem dX10_kind_13 : decode cX10_kind 13 = .ok (.invokevirtual 66, 3) := by decide +kernel
theorem dX10_kind_16 : decode cX10_kind 16 = .ok (.ireturn, 1) := by decide +kernel
theorem dX10_kind_17 : decode cX10_kind 17 = .ok (.iload_n 2, 1) := by decide +kernel
theorem dX10_kind_18 : decode cX10_kind 18 = .ok (.i2l, 1) := by decide +kernel
theorem dX10_kind_19 : decode cX10_kind 19 = .ok (.lconst 0, 1) := by decide +kernel
theorem dX10_kind_20 : decode cX10_kind 20 = .ok (.ldc2_w 75, 3) := by decide +kernel
theorem dX10_kind_23 : decode cX10_kind 23 = .ok (.invokestatic 77, 3) := by decide +kernel
theorem dX10_kind_26 : decode cX10_kind 26 = .ok (.ifCond .ne 10, 3) := by decide +kernel
theorem dX10_kind_29 : decode cX10_kind 29 = .ok (.aload_n 0, 1) := by decide +kernel
theorem dX10_kind_30 : decode cX10_kind 30 = .ok (.bipush (-2), 2) := by decide +kernel
theorem dX10_kind_32 : decode cX10_kind 32 = .ok (.invokevirtual 66, 3) := by decide +kernel
theorem dX10_kind_35 : decode cX10_kind 35 = .ok (.ireturn, 1) := by decide +kernel
theorem dX10_kind_36 : decode cX10_kind 36 = .ok (.iload_n 3, 1) := by decide +kernel
theorem dX10_kind_37 : decode cX10_kind 37 = .ok (.i2l, 1) := by decide +kernel
theorem dX10_kind_38 : decode cX10_kind 38 = .ok (.lconst 0, 1) := by decide +kernel
theorem dX10_kind_39 : decode cX10_kind 39 = .ok (.ldc2_w 176, 3) := by decide +kernel
theorem dX10_kind_42 : decode cX10_kind 42 = .ok (.invokestatic 77, 3) := by decide +kernel
theorem dX10_kind_45 : decode cX10_kind 45 = .ok (.ifCond .ne 19, 3) := by decide +kernel
theorem dX10_kind_48 : decode cX10_kind 48 = .ok (.aload_n 0, 1) := by decide +kernel
theorem dX10_kind_49 : decode cX10_kind 49 = .ok (.iload_n 3, 1) := by decide +kernel
theorem dX10_kind_50 : decode cX10_kind 50 = .ok (.ifCond .ge 8, 3) := by decide +kernel
theorem dX10_kind_53 : decode cX10_kind 53 = .ok (.bipush (-4), 2) := by decide +kernel
theorem dX10_kind_55 : decode cX10_kind 55 = .ok (.goto 5, 3) := by decide +kernel
theorem dX10_kind_58 : decode cX10_kind 58 = .ok (.bipush (-6), 2) := by decide +kernel
theorem dX10_kind_60 : decode cX10_kind 60 = .ok (.invokevirtual 66, 3) := by decide +kernel
theorem dX10_kind_63 : decode cX10_kind 63 = .ok (.ireturn, 1) := by decide +kernel
theorem dX10_kind_64 : decode cX10_kind 64 = .ok (.bipush 10, 2) := by decide +kernel
theorem dX10_kind_66 : decode cX10_kind 66 = .ok (.aload_n 0, 1) := by decide +kernel
theorem dX10_kind_67 : decode cX10_kind 67 = .ok (.getfield 9, 3) := by decide +kernel
theorem dX10_kind_70 : decode cX10_kind 70 = .ok (.bipush 24, 2) := by decide +kernel
theorem dX10_kind_72 : decode cX10_kind 72 = .ok (.iload_n 1, 1) := by decide +kernel
theorem dX10_kind_73 : decode cX10_kind 73 = .ok (.iadd, 1) := by decide +kernel
theorem dX10_kind_74 : decode cX10_kind 74 = .ok (.iaload, 1) := by decide +kernel
theorem dX10_kind_75 : decode cX10_kind 75 = .ok (.imul, 1) := by decide +kernel
theorem dX10_kind_76 : decode cX10_kind 76 = .ok (.aload_n 0, 1) := by decide +kernel
theorem dX10_kind_77 : decode cX10_kind 77 = .ok (.getfield 9, 3) := by decide +kernel
theorem dX10_kind_80 : decode cX10_kind 80 = .ok (.bipush 32, 2) := by decide +kernel
theorem dX10_kind_82 : decode cX10_kind 82 = .ok (.iload_n 1, 1) := by decide +kernel
theorem dX10_kind_83 : decode cX10_kind 83 = .ok (.iadd, 1) := by decide +kernel
theorem dX10_kind_84 : decode cX10_kind 84 = .ok (.iaload, 1) := by decide +kernel
theorem dX10_kind_85 : decode cX10_kind 85 = .ok (.iadd, 1) := by decide +kernel
theorem dX10_kind_86 : decode cX10_kind 86 = .ok (.istore 4, 2) := by decide +kernel
theorem dX10_kind_88 : decode cX10_kind 88 = .ok (.aload_n 0, 1) := by decide +kernel
theorem dX10_kind_89 : decode cX10_kind 89 = .ok (.getfield 9, 3) := by decide +kernel
theorem dX10_kind_92 : decode cX10_kind 92 = .ok (.bipush 24, 2) := by decide +kernel
theorem dX10_kind_94 : decode cX10_kind 94 = .ok (.iload_n 1, 1) := by decide +kernel
theorem dX10_kind_95 : decode cX10_kind 95 = .ok (.iadd, 1) := by decide +kernel
theorem dX10_kind_96 : decode cX10_kind 96 = .ok (.iload_n 2, 1) := by decide +kernel
theorem dX10_kind_97 : decode cX10_kind 97 = .ok (.iastore, 1) := by decide +kernel
theorem dX10_kind_98 : decode cX10_kind 98 = .ok (.aload_n 0, 1) := by decide +kernel
theorem dX10_kind_99 : decode cX10_kind 99 = .ok (.getfield 9, 3) := by decide +kernel
theorem dX10_kind_102 : decode cX10_kind 102 = .ok (.bipush 32, 2) := by decide +kernel
theorem dX10_kind_104 : decode cX10_kind 104 = .ok (.iload_n 1, 1) := by decide +kernel
theorem dX10_kind_105 : decode cX10_kind 105 = .ok (.iadd, 1) := by decide +kernel
theorem dX10_kind_106 : decode cX10_kind 106 = .ok (.iload_n 3, 1) := by decide +kernel
theorem dX10_kind_107 : decode cX10_kind 107 = .ok (.iastore, 1) := by decide +kernel
theorem dX10_kind_108 : decode cX10_kind 108 = .ok (.iload 4, 2) := by decide +kernel
theorem dX10_kind_110 : decode cX10_kind 110 = .ok (.ireturn, 1) := by decide +kernel
theorem dX10_home_0 : decode cX10_home 0 = .ok (.iload_n 1, 1) := by decide +kernel
theorem dX10_home_1 : decode cX10_home 1 = .ok (.invokestatic 92, 3) := by decide +kernel
theorem dX10_home_4 : decode cX10_home 4 = .ok (.ifCond .ne 9, 3) := by decide +kernel
theorem dX10_home_7 : decode cX10_home 7 = .ok (.aload_n 0, 1) := by decide +kernel
theorem dX10_home_8 : decode cX10_home 8 = .ok (.iconst (-1), 1) := by decide +kernel
theorem dX10_home_9 : decode cX10_home 9 = .ok (.invokevirtual 66, 3) := by decide +kernel
theorem dX10_home_12 : decode cX10_home 12 = .ok (.ireturn, 1) := by decide +kernel
theorem dX10_home_13 : decode cX10_home 13 = .ok (.aload_n 0, 1) := by decide +kernel
theorem dX10_home_14 : decode cX10_home 14 = .ok (.getfield 9, 3) := by decide +kernel
theorem dX10_home_17 : decode cX10_home 17 = .ok (.bipush 48, 2) := by decide +kernel
theorem dX10_home_19 : decode cX10_home 19 = .ok (.iaload, 1) := by decide +kernel
theorem dX10_home_20 : decode cX10_home 20 = .ok (.istore_n 2, 1) := by decide +kernel
theorem dX10_home_21 : decode cX10_home 21 = .ok (.aload_n 0, 1) := by decide +kernel
theorem dX10_home_22 : decode cX10_home 22 = .ok (.getfield 9, 3) := by decide +kernel
theorem dX10_home_25 : decode cX10_home 25 = .ok (.bipush 48, 2) := by decide +kernel
theorem dX10_home_27 : decode cX10_home 27 = .ok (.iload_n 1, 1) := by decide +kernel
theorem dX10_home_28 : decode cX10_home 28 = .ok (.iastore, 1) := by decide +kernel
theorem dX10_home_29 : decode cX10_home 29 = .ok (.iload_n 2, 1) := by decide +kernel
theorem dX10_home_30 : decode cX10_home 30 = .ok (.ireturn, 1) := by decide +kernel
theorem dX10_street_0 : decode cX10_street 0 = .ok (.aload_n 0, 1) := by decide +kernel
theorem dX10_street_1 : decode cX10_street 1 = .ok (.getfield 9, 3) := by decide +kernel
theorem dX10_street_4 : decode cX10_street 4 = .ok (.iload_n 1, 1) := by decide +kernel
theorem dX10_street_5 : decode cX10_street 5 = .ok (.invokestatic 163, 3) := by decide +kernel
theorem dX10_street_8 : decode cX10_street 8 = .ok (.ifCond .ne 9, 3) := by decide +kernel
theorem dX10_street_11 : decode cX10_street 11 = .ok (.aload_n 0, 1) := by decide +kernel
theorem dX10_street_12 : decode cX10_street 12 = .ok (.iconst (-1), 1) := by decide +kernel
theorem dX10_street_13 : decode cX10_street 13 = .ok (.invokevirtual 66, 3) := by decide +kernel
theorem dX10_street_16 : decode cX10_street 16 = .ok (.ireturn, 1) := by decide +kernel
theorem dX10_street_17 : decode cX10_street 17 = .ok (.iload_n 2, 1) := by decide +kernel
theorem dX10_street_18 : decode cX10_street 18 = .ok (.i2l, 1) := by decide +kernel
theorem dX10_street_19 : decode cX10_street 19 = .ok (.lconst 0, 1) := by decide +kernel
theorem dX10_street_20 : decode cX10_street 20 = .ok (.ldc2_w 178, 3) := by decide +kernel
theorem dX10_street_23 : decode cX10_street 23 = .ok (.invokestatic 77, 3) := by decide +kernel
theorem dX10_street_26 : decode cX10_street 26 = .ok (.ifCond .ne 10, 3) := by decide +kernel
theorem dX10_street_29 : decode cX10_street 29 = .ok (.aload_n 0, 1) := by decide +kernel
theorem dX10_street_30 : decode cX10_street 30 = .ok (.bipush (-2), 2) := by decide +kernel
theorem dX10_street_32 : decode cX10_street 32 = .ok (.invokevirtual 66, 3) := by decide +kernel
theorem dX10_street_35 : decode cX10_street 35 = .ok (.ireturn, 1) := by decide +kernel
theorem dX10_street_36 : decode cX10_street 36 = .ok (.iload_n 2, 1) := by decide +kernel
theorem dX10_street_37 : decode cX10_street 37 = .ok (.bipush 6, 2) := by decide +kernel
theorem dX10_street_39 : decode cX10_street 39 = .ok (.if_icmp .ge 17, 3) := by decide +kernel
theorem dX10_street_42 : decode cX10_street 42 = .ok (.aload_n 0, 1) := by decide +kernel
theorem dX10_street_43 : decode cX10_street 43 = .ok (.getfield 9, 3) := by decide +kernel
theorem dX10_street_46 : decode cX10_street 46 = .ok (.bipush 8, 2) := by decide +kernel
theorem dX10_street_48 : decode cX10_street 48 = .ok (.iload_n 2, 1) := by decide +kernel
theorem dX10_street_49 : decode cX10_street 49 = .ok (.imul, 1) := by decide +kernel
theorem dX10_street_50 : decode cX10_street 50 = .ok (.iload_n 1, 1) := by decide +kernel
theorem dX10_street_51 : decode cX10_street 51 = .ok (.iadd, 1) := by decide +kernel
theorem dX10_street_52 : decode cX10_street 52 = .ok (.iaload, 1) := by decide +kernel
theorem dX10_street_53 : decode cX10_street 53 = .ok (.goto 18, 3) := by decide +kernel
theorem dX10_street_56 : decode cX10_street 56 = .ok (.aload_n 0, 1) := by decide +kernel
theorem dX10_street_57 : decode cX10_street 57 = .ok (.getfield 9, 3) := by decide +kernel
theorem dX10_street_60 : decode cX10_street 60 = .ok (.iconst 2, 1) := by decide +kernel
theorem dX10_street_61 : decode cX10_street 61 = .ok (.iload_n 1, 1) := by decide +kernel
theorem dX10_street_62 : decode cX10_street 62 = .ok (.imul, 1) := by decide +kernel
theorem dX10_street_63 : decode cX10_street 63 = .ok (.iload_n 2, 1) := by decide +kernel
theorem dX10_street_64 : decode cX10_street 64 = .ok (.iadd, 1) := by decide +kernel
theorem dX10_street_65 : decode cX10_street 65 = .ok (.bipush 6, 2) := by decide +kernel
theorem dX10_street_67 : decode cX10_street 67 = .ok (.isub, 1) := by decide +kernel
theorem dX10_street_68 : decode cX10_street 68 = .ok (.invokestatic 85, 3) := by decide +kernel
theorem dX10_street_71 : decode cX10_street 71 = .ok (.ireturn, 1) := by decide +kernel
theorem dX10_degree_0 : decode cX10_degree 0 = .ok (.iconst 0, 1) := by decide +kernel
theorem dX10_degree_1 : decode cX10_degree 1 = .ok (.istore_n 2, 1) := by decide +kernel
theorem dX10_degree_2 : decode cX10_degree 2 = .ok (.iconst 0, 1) := by decide +kernel
theorem dX10_degree_3 : decode cX10_degree 3 = .ok (.istore_n 3, 1) := by decide +kernel
theorem dX10_degree_4 : decode cX10_degree 4 = .ok (.iload_n 3, 1) := by decide +kernel
theorem dX10_degree_5 : decode cX10_degree 5 = .ok (.aload_n 0, 1) := by decide +kernel
theorem dX10_degree_6 : decode cX10_degree 6 = .ok (.bipush 49, 2) := by decide +kernel
theorem dX10_degree_8 : decode cX10_degree 8 = .ok (.iaload, 1) := by decide +kernel
theorem dX10_degree_9 : decode cX10_degree 9 = .ok (.if_icmp .ge 44, 3) := by decide +kernel
theorem dX10_degree_12 : decode cX10_degree 12 = .ok (.iload_n 2, 1) := by decide +kernel
theorem dX10_degree_13 : decode cX10_degree 13 = .ok (.aload_n 0, 1) := by decide +kernel
