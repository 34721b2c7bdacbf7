theorem dX10_degree_14 : decode cX10_degree 14 = .ok (.iload_n 3, 1) := by decide +kernel
theorem dX10_degree_15 : decode cX10_degree 15 = .ok (.invokestatic 88, 3) := by decide +kernel
theorem dX10_degree_18 : decode cX10_degree 18 = .ok (.ifCond .eq 26, 3) := by decide +kernel
theorem dX10_degree_21 : decode cX10_degree 21 = .ok (.aload_n 0, 1) := by decide +kernel
theorem dX10_degree_22 : decode cX10_degree 22 = .ok (.iconst 0, 1) := by decide +kernel
theorem dX10_degree_23 : decode cX10_degree 23 = .ok (.iload_n 3, 1) := by decide +kernel
theorem dX10_degree_24 : decode cX10_degree 24 = .ok (.iadd, 1) := by decide +kernel
theorem dX10_degree_25 : decode cX10_degree 25 = .ok (.iaload, 1) := by decide +kernel
theorem dX10_degree_26 : decode cX10_degree 26 = .ok (.iload_n 1, 1) := by decide +kernel
theorem dX10_degree_27 : decode cX10_degree 27 = .ok (.if_icmp .eq 13, 3) := by decide +kernel
theorem dX10_degree_30 : decode cX10_degree 30 = .ok (.aload_n 0, 1) := by decide +kernel
theorem dX10_degree_31 : decode cX10_degree 31 = .ok (.bipush 8, 2) := by decide +kernel
theorem dX10_degree_33 : decode cX10_degree 33 = .ok (.iload_n 3, 1) := by decide +kernel
theorem dX10_degree_34 : decode cX10_degree 34 = .ok (.iadd, 1) := by decide +kernel
theorem dX10_degree_35 : decode cX10_degree 35 = .ok (.iaload, 1) := by decide +kernel
theorem dX10_degree_36 : decode cX10_degree 36 = .ok (.iload_n 1, 1) := by decide +kernel
theorem dX10_degree_37 : decode cX10_degree 37 = .ok (.if_icmp .ne 7, 3) := by decide +kernel
theorem dX10_degree_40 : decode cX10_degree 40 = .ok (.iconst 1, 1) := by decide +kernel
theorem dX10_degree_41 : decode cX10_degree 41 = .ok (.goto 4, 3) := by decide +kernel
theorem dX10_degree_44 : decode cX10_degree 44 = .ok (.iconst 0, 1) := by decide +kernel
theorem dX10_degree_45 : decode cX10_degree 45 = .ok (.iadd, 1) := by decide +kernel
theorem dX10_degree_46 : decode cX10_degree 46 = .ok (.istore_n 2, 1) := by decide +kernel
theorem dX10_degree_47 : decode cX10_degree 47 = .ok (.iinc 3 1, 3) := by decide +kernel
theorem dX10_degree_50 : decode cX10_degree 50 = .ok (.goto (-46), 3) := by decide +kernel
theorem dX10_degree_53 : decode cX10_degree 53 = .ok (.iload_n 2, 1) := by decide +kernel
theorem dX10_degree_54 : decode cX10_degree 54 = .ok (.ireturn, 1) := by decide +kernel
theorem dX10_corner_0 : decode cX10_corner 0 = .ok (.iload_n 1, 1) := by decide +kernel
theorem dX10_corner_1 : decode cX10_corner 1 = .ok (.invokestatic 92, 3) := by decide +kernel
theorem dX10_corner_4 : decode cX10_corner 4 = .ok (.ifCond .ne 9, 3) := by decide +kernel
theorem dX10_corner_7 : decode cX10_corner 7 = .ok (.aload_n 0, 1) := by decide +kernel
theorem dX10_corner_8 : decode cX10_corner 8 = .ok (.iconst (-1), 1) := by decide +kernel
theorem dX10_corner_9 : decode cX10_corner 9 = .ok (.invokevirtual 66, 3) := by decide +kernel
theorem dX10_corner_12 : decode cX10_corner 12 = .ok (.ireturn, 1) := by decide +kernel
theorem dX10_corner_13 : decode cX10_corner 13 = .ok (.iload_n 2, 1) := by decide +kernel
theorem dX10_corner_14 : decode cX10_corner 14 = .ok (.i2l, 1) := by decide +kernel
theorem dX10_corner_15 : decode cX10_corner 15 = .ok (.lconst 0, 1) := by decide +kernel
theorem dX10_corner_16 : decode cX10_corner 16 = .ok (.ldc2_w 180, 3) := by decide +kernel
theorem dX10_corner_19 : decode cX10_corner 19 = .ok (.invokestatic 77, 3) := by decide +kernel
theorem dX10_corner_22 : decode cX10_corner 22 = .ok (.ifCond .ne 10, 3) := by decide +kernel
theorem dX10_corner_25 : decode cX10_corner 25 = .ok (.aload_n 0, 1) := by decide +kernel
theorem dX10_corner_26 : decode cX10_corner 26 = .ok (.bipush (-2), 2) := by decide +kernel
theorem dX10_corner_28 : decode cX10_corner 28 = .ok (.invokevirtual 66, 3) := by decide +kernel
theorem dX10_corner_31 : decode cX10_corner 31 = .ok (.ireturn, 1) := by decide +kernel
theorem dX10_corner_32 : decode cX10_corner 32 = .ok (.iload_n 2, 1) := by decide +kernel
theorem dX10_corner_33 : decode cX10_corner 33 = .ok (.ifCond .ne 12, 3) := by decide +kernel
theorem dX10_corner_36 : decode cX10_corner 36 = .ok (.aload_n 0, 1) := by decide +kernel
theorem dX10_corner_37 : decode cX10_corner 37 = .ok (.getfield 9, 3) := by decide +kernel
theorem dX10_corner_40 : decode cX10_corner 40 = .ok (.iload_n 1, 1) := by decide +kernel
theorem dX10_corner_41 : decode cX10_corner 41 = .ok (.invokestatic 182, 3) := by decide +kernel
theorem dX10_corner_44 : decode cX10_corner 44 = .ok (.ireturn, 1) := by decide +kernel
theorem dX10_corner_45 : decode cX10_corner 45 = .ok (.iconst 0, 1) := by decide +kernel
theorem dX10_corner_46 : decode cX10_corner 46 = .ok (.istore_n 3, 1) := by decide +kernel
theorem dX10_corner_47 : decode cX10_corner 47 = .ok (.iload_n 2, 1) := by decide +kernel
theorem dX10_corner_48 : decode cX10_corner 48 = .ok (.iconst 1, 1) := by decide +kernel
theorem dX10_corner_49 : decode cX10_corner 49 = .ok (.if_icmp .ne 64, 3) := by decide +kernel
theorem dX10_corner_52 : decode cX10_corner 52 = .ok (.iconst 0, 1) := by decide +kernel
theorem dX10_corner_53 : decode cX10_corner 53 = .ok (.istore 4, 2) := by decide +kernel
theorem dX10_corner_55 : decode cX10_corner 55 = .ok (.iload 4, 2) := by decide +kernel
theorem dX10_corner_57 : decode cX10_corner 57 = .ok (.aload_n 0, 1) := by decide +kernel
theorem dX10_corner_58 : decode cX10_corner 58 = .ok (.getfield 9, 3) := by decide +kernel
theorem dX10_corner_61 : decode cX10_corner 61 = .ok (.bipush 49, 2) := by decide +kernel
theorem dX10_corner_63 : decode cX10_corner 63 = .ok (.iaload, 1) := by decide +kernel
theorem dX10_corner_64 : decode cX10_corner 64 = .ok (.if_icmp .ge 47, 3) := by decide +kernel
theorem dX10_corner_67 : decode cX10_corner 67 = .ok (.iload_n 3, 1) := by decide +kernel
theorem dX10_corner_68 : decode cX10_corner 68 = .ok (.aload_n 0, 1) := by decide +kernel
theorem dX10_corner_69 : decode cX10_corner 69 = .ok (.getfield 9, 3) := by decide +kernel
theorem dX10_corner_72 : decode cX10_corner 72 = .ok (.iconst 0, 1) := by decide +kernel
theorem dX10_corner_73 : decode cX10_corner 73 = .ok (.iload 4, 2) := by decide +kernel
theorem dX10_corner_75 : decode cX10_corner 75 = .ok (.iadd, 1) := by decide +kernel
theorem dX10_corner_76 : decode cX10_corner 76 = .ok (.iaload, 1) := by decide +kernel
theorem dX10_corner_77 : decode cX10_corner 77 = .ok (.iload_n 1, 1) := by decide +kernel
theorem dX10_corner_78 : decode cX10_corner 78 = .ok (.if_icmp .eq 17, 3) := by decide +kernel
theorem dX10_corner_81 : decode cX10_corner 81 = .ok (.aload_n 0, 1) := by decide +kernel
theorem dX10_corner_82 : decode cX10_corner 82 = .ok (.getfield 9, 3) := by decide +kernel
theorem dX10_corner_85 : decode cX10_corner 85 = .ok (.bipush 8, 2) := by decide +kernel
theorem dX10_corner_87 : decode cX10_corner 87 = .ok (.iload 4, 2) := by decide +kernel
theorem dX10_corner_89 : decode cX10_corner 89 = .ok (.iadd, 1) := by decide +kernel
theorem dX10_corner_90 : decode cX10_corner 90 = .ok (.iaload, 1) := by decide +kernel
theorem dX10_corner_91 : decode cX10_corner 91 = .ok (.iload_n 1, 1) := by decide +kernel
theorem dX10_corner_92 : decode cX10_corner 92 = .ok (.if_icmp .ne 10, 3) := by decide +kernel
theorem dX10_corner_95 : decode cX10_corner 95 = .ok (.iconst 1, 1) := by decide +kernel
theorem dX10_corner_96 : decode cX10_corner 96 = .ok (.iload 4, 2) := by decide +kernel
theorem dX10_corner_98 : decode cX10_corner 98 = .ok (.ishl, 1) := by decide +kernel
theorem dX10_corner_99 : decode cX10_corner 99 = .ok (.goto 4, 3) := by decide +kernel
theorem dX10_corner_102 : decode cX10_corner 102 = .ok (.iconst 0, 1) := by decide +kernel
theorem dX10_corner_103 : decode cX10_corner 103 = .ok (.ior, 1) := by decide +kernel
theorem dX10_corner_104 : decode cX10_corner 104 = .ok (.istore_n 3, 1) := by decide +kernel
theorem dX10_corner_105 : decode cX10_corner 105 = .ok (.iinc 4 1, 3) := by decide +kernel
theorem dX10_corner_108 : decode cX10_corner 108 = .ok (.goto (-53), 3) := by decide +kernel
theorem dX10_corner_111 : decode cX10_corner 111 = .ok (.iload_n 3, 1) := by decide +kernel
theorem dX10_corner_112 : decode cX10_corner 112 = .ok (.ireturn, 1) := by decide +kernel
theorem dX10_corner_113 : decode cX10_corner 113 = .ok (.aload_n 0, 1) := by decide +kernel
theorem dX10_corner_114 : decode cX10_corner 114 = .ok (.aload_n 0, 1) := by decide +kernel
theorem dX10_corner_115 : decode cX10_corner 115 = .ok (.getfield 9, 3) := by decide +kernel
theorem dX10_corner_118 : decode cX10_corner 118 = .ok (.invokevirtual 185, 3) := by decide +kernel
theorem dX10_corner_121 : decode cX10_corner 121 = .ok (.iconst 0, 1) := by decide +kernel
theorem dX10_corner_122 : decode cX10_corner 122 = .ok (.istore 4, 2) := by decide +kernel
theorem dX10_corner_124 : decode cX10_corner 124 = .ok (.iload 4, 2) := by decide +kernel
theorem dX10_corner_126 : decode cX10_corner 126 = .ok (.bipush 6, 2) := by decide +kernel
theorem dX10_corner_128 : decode cX10_corner 128 = .ok (.if_icmp .ge 32, 3) := by decide +kernel
theorem dX10_corner_131 : decode cX10_corner 131 = .ok (.iload_n 3, 1) := by decide +kernel
theorem dX10_corner_132 : decode cX10_corner 132 = .ok (.aload_n 0, 1) := by decide +kernel
theorem dX10_corner_133 : decode cX10_corner 133 = .ok (.iload_n 1, 1) := by decide +kernel
theorem dX10_corner_134 : decode cX10_corner 134 = .ok (.iload 4, 2) := by decide +kernel
theorem dX10_corner_136 : decode cX10_corner 136 = .ok (.invokevirtual 108, 3) := by decide +kernel
theorem dX10_corner_139 : decode cX10_corner 139 = .ok (.ldc 98, 2) := by decide +kernel
theorem dX10_corner_141 : decode cX10_corner 141 = .ok (.if_icmp .ge 10, 3) := by decide +kernel
theorem dX10_corner_144 : decode cX10_corner 144 = .ok (.iconst 1, 1) := by decide +kernel
theorem dX10_corner_145 : decode cX10_corner 145 = .ok (.iload 4, 2) := by decide +kernel
theorem dX10_corner_147 : decode cX10_corner 147 = .ok (.ishl, 1) := by decide +kernel
theorem dX10_corner_148 : decode cX10_corner 148 = .ok (.goto 4, 3) := by decide +kernel
theorem dX10_corner_151 : decode cX10_corner 151 = .ok (.iconst 0, 1) := by decide +kernel
theorem dX10_corner_152 : decode cX10_corner 152 = .ok (.ior, 1) := by decide +kernel
theorem dX10_corner_153 : decode cX10_corner 153 = .ok (.istore_n 3, 1) := by decide +kernel
theorem dX10_corner_154 : decode cX10_corner 154 = .ok (.iinc 4 1, 3) := by decide +kernel
theorem dX10_corner_157 : decode cX10_corner 157 = .ok (.goto (-33), 3) := by decide +kernel
theorem dX10_corner_160 : decode cX10_corner 160 = .ok (.iload_n 3, 1) := by decide +kernel
theorem dX10_corner_161 : decode cX10_corner 161 = .ok (.ireturn, 1) := by decide +kernel
theorem dX10_distance_0 : decode cX10_distance 0 = .ok (.iload_n 1, 1) := by decide +kernel
theorem dX10_distance_1 : decode cX10_distance 1 = .ok (.invokestatic 92, 3) := by decide +kernel
theorem dX10_distance_4 : decode cX10_distance 4 = .ok (.ifCond .eq 10, 3) := by decide +kernel
theorem dX10_distance_7 : decode cX10_distance 7 = .ok (.iload_n 2, 1) := by decide +kernel
theorem dX10_distance_8 : decode cX10_distance 8 = .ok (.invokestatic 92, 3) := by decide +kernel
theorem dX10_distance_11 : decode cX10_distance 11 = .ok (.ifCond .ne 9, 3) := by decide +kernel
theorem dX10_distance_14 : decode cX10_distance 14 = .ok (.aload_n 0, 1) := by decide +kernel
theorem dX10_distance_15 : decode cX10_distance 15 = .ok (.iconst (-1), 1) := by decide +kernel
theorem dX10_distance_16 : decode cX10_distance 16 = .ok (.invokevirtual 66, 3) := by decide +kernel
theorem dX10_distance_19 : decode cX10_distance 19 = .ok (.ireturn, 1) := by decide +kernel
theorem dX10_distance_20 : decode cX10_distance 20 = .ok (.aload_n 0, 1) := by decide +kernel
theorem dX10_distance_21 : decode cX10_distance 21 = .ok (.aload_n 0, 1) := by decide +kernel
theorem dX10_distance_22 : decode cX10_distance 22 = .ok (.getfield 9, 3) := by decide +kernel
theorem dX10_distance_25 : decode cX10_distance 25 = .ok (.invokevirtual 185, 3) := by decide +kernel
theorem dX10_distance_28 : decode cX10_distance 28 = .ok (.aload_n 0, 1) := by decide +kernel
theorem dX10_distance_29 : decode cX10_distance 29 = .ok (.iload_n 1, 1) := by decide +kernel
theorem dX10_distance_30 : decode cX10_distance 30 = .ok (.iload_n 2, 1) := by decide +kernel
theorem dX10_distance_31 : decode cX10_distance 31 = .ok (.invokevirtual 108, 3) := by decide +kernel
theorem dX10_distance_34 : decode cX10_distance 34 = .ok (.ldc 98, 2) := by decide +kernel
theorem dX10_distance_36 : decode cX10_distance 36 = .ok (.if_icmp .ge 12, 3) := by decide +kernel
theorem dX10_distance_39 : decode cX10_distance 39 = .ok (.aload_n 0, 1) := by decide +kernel
theorem dX10_distance_40 : decode cX10_distance 40 = .ok (.iload_n 1, 1) := by decide +kernel
theorem dX10_distance_41 : decode cX10_distance 41 = .ok (.iload_n 2, 1) := by decide +kernel
theorem dX10_distance_42 : decode cX10_distance 42 = .ok (.invokevirtual 108, 3) := by decide +kernel
theorem dX10_distance_45 : decode cX10_distance 45 = .ok (.goto 5, 3) := by decide +kernel
theorem dX10_distance_48 : decode cX10_distance 48 = .ok (.bipush (-9), 2) := by decide +kernel
theorem dX10_distance_50 : decode cX10_distance 50 = .ok (.ireturn, 1) := by decide +kernel
theorem dX10_next_0 : decode cX10_next 0 = .ok (.iload_n 1, 1) := by decide +kernel
theorem dX10_next_1 : decode cX10_next 1 = .ok (.invokestatic 92, 3) := by decide +kernel
theorem dX10_next_4 : decode cX10_next 4 = .ok (.ifCond .eq 10, 3) := by decide +kernel
theorem dX10_next_7 : decode cX10_next 7 = .ok (.iload_n 2, 1) := by decide +kernel
theorem dX10_next_8 : decode cX10_next 8 = .ok (.invokestatic 92, 3) := by decide +kernel
theorem dX10_next_11 : decode cX10_next 11 = .ok (.ifCond .ne 9, 3) := by decide +kernel
theorem dX10_next_14 : decode cX10_next 14 = .ok (.aload_n 0, 1) := by decide +kernel
theorem dX10_next_15 : decode cX10_next 15 = .ok (.iconst (-1), 1) := by decide +kernel
theorem dX10_next_16 : decode cX10_next 16 = .ok (.invokevirtual 66, 3) := by decide +kernel
theorem dX10_next_19 : decode cX10_next 19 = .ok (.ireturn, 1) := by decide +kernel
theorem dX10_next_20 : decode cX10_next 20 = .ok (.aload_n 0, 1) := by decide +kernel
theorem dX10_next_21 : decode cX10_next 21 = .ok (.aload_n 0, 1) := by decide +kernel
theorem dX10_next_22 : decode cX10_next 22 = .ok (.getfield 9, 3) := by decide +kernel
theorem dX10_next_25 : decode cX10_next 25 = .ok (.invokevirtual 185, 3) := by decide +kernel
theorem dX10_next_28 : decode cX10_next 28 = .ok (.aload_n 0, 1) := by decide +kernel
theorem dX10_next_29 : decode cX10_next 29 = .ok (.aload_n 0, 1) := by decide +kernel
theorem dX10_next_30 : decode cX10_next 30 = .ok (.getfield 9, 3) := by decide +kernel
theorem dX10_next_33 : decode cX10_next 33 = .ok (.iload_n 1, 1) := by decide +kernel
theorem dX10_next_34 : decode cX10_next 34 = .ok (.iload_n 2, 1) := by decide +kernel
theorem dX10_next_35 : decode cX10_next 35 = .ok (.invokevirtual 189, 3) := by decide +kernel
theorem dX10_next_38 : decode cX10_next 38 = .ok (.ireturn, 1) := by decide +kernel
theorem dX10_round_0 : decode cX10_round 0 = .ok (.iload_n 1, 1) := by decide +kernel
theorem dX10_round_1 : decode cX10_round 1 = .ok (.i2l, 1) := by decide +kernel
theorem dX10_round_2 : decode cX10_round 2 = .ok (.lconst 0, 1) := by decide +kernel
theorem dX10_round_3 : decode cX10_round 3 = .ok (.ldc2_w 192, 3) := by decide +kernel
theorem dX10_round_6 : decode cX10_round 6 = .ok (.invokestatic 77, 3) := by decide +kernel
theorem dX10_round_9 : decode cX10_round 9 = .ok (.ifCond .ne 10, 3) := by decide +kernel
theorem dX10_round_12 : decode cX10_round 12 = .ok (.aload_n 0, 1) := by decide +kernel
theorem dX10_round_13 : decode cX10_round 13 = .ok (.bipush (-2), 2) := by decide +kernel
theorem dX10_round_15 : decode cX10_round 15 = .ok (.invokevirtual 66, 3) := by decide +kernel
theorem dX10_round_18 : decode cX10_round 18 = .ok (.ireturn, 1) := by decide +kernel
theorem dX10_round_19 : decode cX10_round 19 = .ok (.aload_n 0, 1) := by decide +kernel
theorem dX10_round_20 : decode cX10_round 20 = .ok (.aload_n 0, 1) := by decide +kernel
theorem dX10_round_21 : decode cX10_round 21 = .ok (.getfield 9, 3) := by decide +kernel
theorem dX10_round_24 : decode cX10_round 24 = .ok (.invokevirtual 194, 3) := by decide +kernel
theorem dX10_round_27 : decode cX10_round 27 = .ok (.istore_n 2, 1) := by decide +kernel
theorem dX10_round_28 : decode cX10_round 28 = .ok (.iload_n 2, 1) := by decide +kernel
theorem dX10_round_29 : decode cX10_round 29 = .ok (.ifCond .lt 7, 3) := by decide +kernel
theorem dX10_round_32 : decode cX10_round 32 = .ok (.iload_n 1, 1) := by decide +kernel
theorem dX10_round_33 : decode cX10_round 33 = .ok (.ifCond .ne 5, 3) := by decide +kernel
theorem dX10_round_36 : decode cX10_round 36 = .ok (.iload_n 2, 1) := by decide +kernel
theorem dX10_round_37 : decode cX10_round 37 = .ok (.ireturn, 1) := by decide +kernel
theorem dX10_round_38 : decode cX10_round 38 = .ok (.iconst 0, 1) := by decide +kernel
theorem dX10_round_39 : decode cX10_round 39 = .ok (.istore_n 3, 1) := by decide +kernel
theorem dX10_round_40 : decode cX10_round 40 = .ok (.iconst 0, 1) := by decide +kernel
theorem dX10_round_41 : decode cX10_round 41 = .ok (.istore 4, 2) := by decide +kernel
theorem dX10_round_43 : decode cX10_round 43 = .ok (.iconst 0, 1) := by decide +kernel
theorem dX10_round_44 : decode cX10_round 44 = .ok (.istore 5, 2) := by decide +kernel
theorem dX10_round_46 : decode cX10_round 46 = .ok (.iload 5, 2) := by decide +kernel
theorem dX10_round_48 : decode cX10_round 48 = .ok (.aload_n 0, 1) := by decide +kernel
theorem dX10_round_49 : decode cX10_round 49 = .ok (.getfield 134, 3) := by decide +kernel
theorem dX10_round_52 : decode cX10_round 52 = .ok (.if_icmp .ge 44, 3) := by decide +kernel
theorem dX10_round_55 : decode cX10_round 55 = .ok (.aload_n 0, 1) := by decide +kernel
theorem dX10_round_56 : decode cX10_round 56 = .ok (.aload_n 0, 1) := by decide +kernel
theorem dX10_round_57 : decode cX10_round 57 = .ok (.getfield 9, 3) := by decide +kernel
theorem dX10_round_60 : decode cX10_round 60 = .ok (.iload 5, 2) := by decide +kernel
theorem dX10_round_62 : decode cX10_round 62 = .ok (.invokevirtual 197, 3) := by decide +kernel
theorem dX10_round_65 : decode cX10_round 65 = .ok (.ifCond .eq 25, 3) := by decide +kernel
theorem dX10_round_68 : decode cX10_round 68 = .ok (.iinc 3 1, 3) := by decide +kernel
theorem dX10_round_71 : decode cX10_round 71 = .ok (.iload 4, 2) := by decide +kernel
theorem dX10_round_73 : decode cX10_round 73 = .ok (.aload_n 0, 1) := by decide +kernel
theorem dX10_round_74 : decode cX10_round 74 = .ok (.getfield 9, 3) := by decide +kernel
theorem dX10_round_77 : decode cX10_round 77 = .ok (.aload_n 0, 1) := by decide +kernel
theorem dX10_round_78 : decode cX10_round 78 = .ok (.getfield 34, 3) := by decide +kernel
theorem dX10_round_81 : decode cX10_round 81 = .ok (.iload 5, 2) := by decide +kernel
theorem dX10_round_83 : decode cX10_round 83 = .ok (.iaload, 1) := by decide +kernel
theorem dX10_round_84 : decode cX10_round 84 = .ok (.invokestatic 85, 3) := by decide +kernel
theorem dX10_round_87 : decode cX10_round 87 = .ok (.iadd, 1) := by decide +kernel
theorem dX10_round_88 : decode cX10_round 88 = .ok (.istore 4, 2) := by decide +kernel
theorem dX10_round_90 : decode cX10_round 90 = .ok (.iinc 5 1, 3) := by decide +kernel
theorem dX10_round_93 : decode cX10_round 93 = .ok (.goto (-47), 3) := by decide +kernel
theorem dX10_round_96 : decode cX10_round 96 = .ok (.iload_n 1, 1) := by decide +kernel
theorem dX10_round_97 : decode cX10_round 97 = .ok (.iconst 1, 1) := by decide +kernel
theorem dX10_round_98 : decode cX10_round 98 = .ok (.if_icmp .ne 10, 3) := by decide +kernel
theorem dX10_round_101 : decode cX10_round 101 = .ok (.aload_n 0, 1) := by decide +kernel
theorem dX10_round_102 : decode cX10_round 102 = .ok (.getfield 134, 3) := by decide +kernel
theorem dX10_round_105 : decode cX10_round 105 = .ok (.goto 14, 3) := by decide +kernel
theorem dX10_round_108 : decode cX10_round 108 = .ok (.iload_n 1, 1) := by decide +kernel
theorem dX10_round_109 : decode cX10_round 109 = .ok (.iconst 2, 1) := by decide +kernel
theorem dX10_round_110 : decode cX10_round 110 = .ok (.if_icmp .ne 7, 3) := by decide +kernel
theorem dX10_round_113 : decode cX10_round 113 = .ok (.iload_n 3, 1) := by decide +kernel
theorem dX10_round_114 : decode cX10_round 114 = .ok (.goto 5, 3) := by decide +kernel
theorem dX10_round_117 : decode cX10_round 117 = .ok (.iload 4, 2) := by decide +kernel
theorem dX10_round_119 : decode cX10_round 119 = .ok (.ireturn, 1) := by decide +kernel
theorem dX10_step_0 : decode cX10_step 0 = .ok (.aload_n 0, 1) := by decide +kernel
theorem dX10_step_1 : decode cX10_step 1 = .ok (.aload_n 0, 1) := by decide +kernel
theorem dX10_step_2 : decode cX10_step 2 = .ok (.getfield 9, 3) := by decide +kernel
theorem dX10_step_5 : decode cX10_step 5 = .ok (.invokevirtual 194, 3) := by decide +kernel
theorem dX10_step_8 : decode cX10_step 8 = .ok (.istore_n 3, 1) := by decide +kernel
theorem dX10_step_9 : decode cX10_step 9 = .ok (.iload_n 1, 1) := by decide +kernel
theorem dX10_step_10 : decode cX10_step 10 = .ok (.i2l, 1) := by decide +kernel
theorem dX10_step_11 : decode cX10_step 11 = .ok (.lconst 0, 1) := by decide +kernel
theorem dX10_step_12 : decode cX10_step 12 = .ok (.aload_n 0, 1) := by decide +kernel
theorem dX10_step_13 : decode cX10_step 13 = .ok (.getfield 134, 3) := by decide +kernel
theorem dX10_step_16 : decode cX10_step 16 = .ok (.iconst 1, 1) := by decide +kernel
theorem dX10_step_17 : decode cX10_step 17 = .ok (.isub, 1) := by decide +kernel
theorem dX10_step_18 : decode cX10_step 18 = .ok (.i2l, 1) := by decide +kernel
theorem dX10_step_19 : decode cX10_step 19 = .ok (.invokestatic 77, 3) := by decide +kernel
theorem dX10_step_22 : decode cX10_step 22 = .ok (.ifCond .ne 9, 3) := by decide +kernel
theorem dX10_step_25 : decode cX10_step 25 = .ok (.aload_n 0, 1) := by decide +kernel
theorem dX10_step_26 : decode cX10_step 26 = .ok (.iconst (-1), 1) := by decide +kernel
theorem dX10_step_27 : decode cX10_step 27 = .ok (.invokevirtual 66, 3) := by decide +kernel
theorem dX10_step_30 : decode cX10_step 30 = .ok (.ireturn, 1) := by decide +kernel
theorem dX10_step_31 : decode cX10_step 31 = .ok (.iload_n 2, 1) := by decide +kernel
theorem dX10_step_32 : decode cX10_step 32 = .ok (.tableswitch 100 0 4 #[36, 45, 54, 68, 86], 36) := by decide +kernel
theorem dX10_step_68 : decode cX10_step 68 = .ok (.aload_n 0, 1) := by decide +kernel
theorem dX10_step_69 : decode cX10_step 69 = .ok (.getfield 34, 3) := by decide +kernel
theorem dX10_step_72 : decode cX10_step 72 = .ok (.iload_n 1, 1) := by decide +kernel
theorem dX10_step_73 : decode cX10_step 73 = .ok (.iaload, 1) := by decide +kernel
theorem dX10_step_74 : decode cX10_step 74 = .ok (.iconst 2, 1) := by decide +kernel
theorem dX10_step_75 : decode cX10_step 75 = .ok (.idiv, 1) := by decide +kernel
theorem dX10_step_76 : decode cX10_step 76 = .ok (.ireturn, 1) := by decide +kernel
theorem dX10_step_77 : decode cX10_step 77 = .ok (.aload_n 0, 1) := by decide +kernel
theorem dX10_step_78 : decode cX10_step 78 = .ok (.getfield 34, 3) := by decide +kernel
theorem dX10_step_81 : decode cX10_step 81 = .ok (.iload_n 1, 1) := by decide +kernel
theorem dX10_step_82 : decode cX10_step 82 = .ok (.iaload, 1) := by decide +kernel
theorem dX10_step_83 : decode cX10_step 83 = .ok (.iconst 2, 1) := by decide +kernel
theorem dX10_step_84 : decode cX10_step 84 = .ok (.irem, 1) := by decide +kernel
theorem dX10_step_85 : decode cX10_step 85 = .ok (.ireturn, 1) := by decide +kernel
theorem dX10_step_86 : decode cX10_step 86 = .ok (.aload_n 0, 1) := by decide +kernel
theorem dX10_step_87 : decode cX10_step 87 = .ok (.getfield 9, 3) := by decide +kernel
theorem dX10_step_90 : decode cX10_step 90 = .ok (.aload_n 0, 1) := by decide +kernel
theorem dX10_step_91 : decode cX10_step 91 = .ok (.getfield 34, 3) := by decide +kernel
theorem dX10_step_94 : decode cX10_step 94 = .ok (.iload_n 1, 1) := by decide +kernel
theorem dX10_step_95 : decode cX10_step 95 = .ok (.iaload, 1) := by decide +kernel
theorem dX10_step_96 : decode cX10_step 96 = .ok (.invokestatic 99, 3) := by decide +kernel
theorem dX10_step_99 : decode cX10_step 99 = .ok (.ireturn, 1) := by decide +kernel
theorem dX10_step_100 : decode cX10_step 100 = .ok (.aload_n 0, 1) := by decide +kernel
theorem dX10_step_101 : decode cX10_step 101 = .ok (.aload_n 0, 1) := by decide +kernel
theorem dX10_step_102 : decode cX10_step 102 = .ok (.getfield 9, 3) := by decide +kernel
theorem dX10_step_105 : decode cX10_step 105 = .ok (.iload_n 1, 1) := by decide +kernel
theorem dX10_step_106 : decode cX10_step 106 = .ok (.invokevirtual 197, 3) := by decide +kernel
theorem dX10_step_109 : decode cX10_step 109 = .ok (.ifCond .eq 7, 3) := by decide +kernel
theorem dX10_step_112 : decode cX10_step 112 = .ok (.iconst 1, 1) := by decide +kernel
theorem dX10_step_113 : decode cX10_step 113 = .ok (.goto 4, 3) := by decide +kernel
theorem dX10_step_116 : decode cX10_step 116 = .ok (.iconst 0, 1) := by decide +kernel
theorem dX10_step_117 : decode cX10_step 117 = .ok (.ireturn, 1) := by decide +kernel
theorem dX10_step_118 : decode cX10_step 118 = .ok (.aload_n 0, 1) := by decide +kernel
theorem dX10_step_119 : decode cX10_step 119 = .ok (.getfield 9, 3) := by decide +kernel
theorem dX10_step_122 : decode cX10_step 122 = .ok (.aload_n 0, 1) := by decide +kernel
theorem dX10_step_123 : decode cX10_step 123 = .ok (.getfield 34, 3) := by decide +kernel
theorem dX10_step_126 : decode cX10_step 126 = .ok (.iload_n 1, 1) := by decide +kernel
theorem dX10_step_127 : decode cX10_step 127 = .ok (.iaload, 1) := by decide +kernel
theorem dX10_step_128 : decode cX10_step 128 = .ok (.invokestatic 85, 3) := by decide +kernel
theorem dX10_step_131 : decode cX10_step 131 = .ok (.ireturn, 1) := by decide +kernel
theorem dX10_step_132 : decode cX10_step 132 = .ok (.aload_n 0, 1) := by decide +kernel
theorem dX10_step_133 : decode cX10_step 133 = .ok (.bipush (-2), 2) := by decide +kernel
theorem dX10_step_135 : decode cX10_step 135 = .ok (.invokevirtual 66, 3) := by decide +kernel
theorem dX10_step_138 : decode cX10_step 138 = .ok (.ireturn, 1) := by decide +kernel
theorem dX10_timeBy_0 : decode cX10_timeBy 0 = .ok (.iload_n 1, 1) := by decide +kernel
theorem dX10_timeBy_1 : decode cX10_timeBy 1 = .ok (.i2f, 1) := by decide +kernel
theorem dX10_timeBy_2 : decode cX10_timeBy 2 = .ok (.iload_n 2, 1) := by decide +kernel
theorem dX10_timeBy_3 : decode cX10_timeBy 3 = .ok (.i2f, 1) := by decide +kernel
theorem dX10_timeBy_4 : decode cX10_timeBy 4 = .ok (.fdiv, 1) := by decide +kernel
theorem dX10_timeBy_5 : decode cX10_timeBy 5 = .ok (.fstore_n 3, 1) := by decide +kernel
theorem dX10_timeBy_6 : decode cX10_timeBy 6 = .ok (.fconst 0, 1) := by decide +kernel
theorem dX10_timeBy_7 : decode cX10_timeBy 7 = .ok (.fstore 4, 2) := by decide +kernel
theorem dX10_timeBy_9 : decode cX10_timeBy 9 = .ok (.iconst 0, 1) := by decide +kernel
theorem dX10_timeBy_10 : decode cX10_timeBy 10 = .ok (.istore 5, 2) := by decide +kernel
theorem dX10_timeBy_12 : decode cX10_timeBy 12 = .ok (.iload 5, 2) := by decide +kernel
theorem dX10_timeBy_14 : decode cX10_timeBy 14 = .ok (.aload_n 0, 1) := by decide +kernel
theorem dX10_timeBy_15 : decode cX10_timeBy 15 = .ok (.getfield 134, 3) := by decide +kernel
theorem dX10_timeBy_18 : decode cX10_timeBy 18 = .ok (.if_icmp .ge 31, 3) := by decide +kernel
theorem dX10_timeBy_21 : decode cX10_timeBy 21 = .ok (.fload 4, 2) := by decide +kernel
theorem dX10_timeBy_23 : decode cX10_timeBy 23 = .ok (.aload_n 0, 1) := by decide +kernel
theorem dX10_timeBy_24 : decode cX10_timeBy 24 = .ok (.getfield 9, 3) := by decide +kernel
theorem dX10_timeBy_27 : decode cX10_timeBy 27 = .ok (.aload_n 0, 1) := by decide +kernel
theorem dX10_timeBy_28 : decode cX10_timeBy 28 = .ok (.getfield 34, 3) := by decide +kernel
theorem dX10_timeBy_31 : decode cX10_timeBy 31 = .ok (.iload 5, 2) := by decide +kernel
theorem dX10_timeBy_33 : decode cX10_timeBy 33 = .ok (.iaload, 1) := by decide +kernel
theorem dX10_timeBy_34 : decode cX10_timeBy 34 = .ok (.invokestatic 85, 3) := by decide +kernel
theorem dX10_timeBy_37 : decode cX10_timeBy 37 = .ok (.i2f, 1) := by decide +kernel
theorem dX10_timeBy_38 : decode cX10_timeBy 38 = .ok (.fload_n 3, 1) := by decide +kernel
theorem dX10_timeBy_39 : decode cX10_timeBy 39 = .ok (.fdiv, 1) := by decide +kernel
theorem dX10_timeBy_40 : decode cX10_timeBy 40 = .ok (.fadd, 1) := by decide +kernel
theorem dX10_timeBy_41 : decode cX10_timeBy 41 = .ok (.fstore 4, 2) := by decide +kernel
theorem dX10_timeBy_43 : decode cX10_timeBy 43 = .ok (.iinc 5 1, 3) := by decide +kernel
theorem dX10_timeBy_46 : decode cX10_timeBy 46 = .ok (.goto (-34), 3) := by decide +kernel
theorem dX10_timeBy_49 : decode cX10_timeBy 49 = .ok (.fload 4, 2) := by decide +kernel
theorem dX10_timeBy_51 : decode cX10_timeBy 51 = .ok (.freturn, 1) := by decide +kernel
theorem dX10_time_0 : decode cX10_time 0 = .ok (.aload_n 0, 1) := by decide +kernel
theorem dX10_time_1 : decode cX10_time 1 = .ok (.aload_n 0, 1) := by decide +kernel
theorem dX10_time_2 : decode cX10_time 2 = .ok (.getfield 9, 3) := by decide +kernel
theorem dX10_time_5 : decode cX10_time 5 = .ok (.invokevirtual 194, 3) := by decide +kernel
theorem dX10_time_8 : decode cX10_time 8 = .ok (.ifCond .ge 8, 3) := by decide +kernel
theorem dX10_time_11 : decode cX10_time 11 = .ok (.ldc 200, 2) := by decide +kernel
theorem dX10_time_13 : decode cX10_time 13 = .ok (.goto 9, 3) := by decide +kernel
theorem dX10_time_16 : decode cX10_time 16 = .ok (.aload_n 0, 1) := by decide +kernel
theorem dX10_time_17 : decode cX10_time 17 = .ok (.iload_n 1, 1) := by decide +kernel
theorem dX10_time_18 : decode cX10_time 18 = .ok (.iload_n 2, 1) := by decide +kernel
theorem dX10_time_19 : decode cX10_time 19 = .ok (.invokevirtual 201, 3) := by decide +kernel
theorem dX10_time_22 : decode cX10_time 22 = .ok (.invokestatic 205, 3) := by decide +kernel
theorem dX10_time_25 : decode cX10_time 25 = .ok (.ireturn, 1) := by decide +kernel
theorem dX10_rank_0 : decode cX10_rank 0 = .ok (.aload_n 0, 1) := by decide +kernel
theorem dX10_rank_1 : decode cX10_rank 1 = .ok (.aload_n 0, 1) := by decide +kernel
theorem dX10_rank_2 : decode cX10_rank 2 = .ok (.getfield 9, 3) := by decide +kernel
theorem dX10_rank_5 : decode cX10_rank 5 = .ok (.invokevirtual 194, 3) := by decide +kernel
theorem dX10_rank_8 : decode cX10_rank 8 = .ok (.ifCond .ge 10, 3) := by decide +kernel
theorem dX10_rank_11 : decode cX10_rank 11 = .ok (.aload_n 0, 1) := by decide +kernel
theorem dX10_rank_12 : decode cX10_rank 12 = .ok (.bipush (-3), 2) := by decide +kernel
theorem dX10_rank_14 : decode cX10_rank 14 = .ok (.invokevirtual 211, 3) := by decide +kernel
theorem dX10_rank_17 : decode cX10_rank 17 = .ok (.ireturn, 1) := by decide +kernel
theorem dX10_rank_18 : decode cX10_rank 18 = .ok (.aload_n 0, 1) := by decide +kernel
theorem dX10_rank_19 : decode cX10_rank 19 = .ok (.iload_n 1, 1) := by decide +kernel
theorem dX10_rank_20 : decode cX10_rank 20 = .ok (.iload_n 2, 1) := by decide +kernel
theorem dX10_rank_21 : decode cX10_rank 21 = .ok (.invokevirtual 201, 3) := by decide +kernel
theorem dX10_rank_24 : decode cX10_rank 24 = .ok (.aload_n 0, 1) := by decide +kernel
theorem dX10_rank_25 : decode cX10_rank 25 = .ok (.iload_n 3, 1) := by decide +kernel
theorem dX10_rank_26 : decode cX10_rank 26 = .ok (.iload 4, 2) := by decide +kernel
theorem dX10_rank_28 : decode cX10_rank 28 = .ok (.invokevirtual 201, 3) := by decide +kernel
theorem dX10_rank_31 : decode cX10_rank 31 = .ok (.invokestatic 214, 3) := by decide +kernel
theorem dX10_rank_34 : decode cX10_rank 34 = .ok (.ireturn, 1) := by decide +kernel
theorem dX10_mean_0 : decode cX10_mean 0 = .ok (.dconst 0, 1) := by decide +kernel
theorem dX10_mean_1 : decode cX10_mean 1 = .ok (.dstore_n 1, 1) := by decide +kernel
theorem dX10_mean_2 : decode cX10_mean 2 = .ok (.iconst 0, 1) := by decide +kernel
theorem dX10_mean_3 : decode cX10_mean 3 = .ok (.istore_n 3, 1) := by decide +kernel
theorem dX10_mean_4 : decode cX10_mean 4 = .ok (.iconst 0, 1) := by decide +kernel
theorem dX10_mean_5 : decode cX10_mean 5 = .ok (.istore 4, 2) := by decide +kernel
theorem dX10_mean_7 : decode cX10_mean 7 = .ok (.iload 4, 2) := by decide +kernel
theorem dX10_mean_9 : decode cX10_mean 9 = .ok (.aload_n 0, 1) := by decide +kernel
theorem dX10_mean_10 : decode cX10_mean 10 = .ok (.getfield 9, 3) := by decide +kernel
theorem dX10_mean_13 : decode cX10_mean 13 = .ok (.bipush 49, 2) := by decide +kernel
theorem dX10_mean_15 : decode cX10_mean 15 = .ok (.iaload, 1) := by decide +kernel
theorem dX10_mean_16 : decode cX10_mean 16 = .ok (.if_icmp .ge 40, 3) := by decide +kernel
theorem dX10_mean_19 : decode cX10_mean 19 = .ok (.aload_n 0, 1) := by decide +kernel
theorem dX10_mean_20 : decode cX10_mean 20 = .ok (.getfield 9, 3) := by decide +kernel
theorem dX10_mean_23 : decode cX10_mean 23 = .ok (.bipush 40, 2) := by decide +kernel
theorem dX10_mean_25 : decode cX10_mean 25 = .ok (.iload 4, 2) := by decide +kernel
theorem dX10_mean_27 : decode cX10_mean 27 = .ok (.iadd, 1) := by decide +kernel
theorem dX10_mean_28 : decode cX10_mean 28 = .ok (.iaload, 1) := by decide +kernel
theorem dX10_mean_29 : decode cX10_mean 29 = .ok (.iconst 1, 1) := by decide +kernel
theorem dX10_mean_30 : decode cX10_mean 30 = .ok (.if_icmp .ne 20, 3) := by decide +kernel
theorem dX10_mean_33 : decode cX10_mean 33 = .ok (.dload_n 1, 1) := by decide +kernel
theorem dX10_mean_34 : decode cX10_mean 34 = .ok (.aload_n 0, 1) := by decide +kernel
theorem dX10_mean_35 : decode cX10_mean 35 = .ok (.getfield 9, 3) := by decide +kernel
theorem dX10_mean_38 : decode cX10_mean 38 = .ok (.bipush 16, 2) := by decide +kernel
theorem dX10_mean_40 : decode cX10_mean 40 = .ok (.iload 4, 2) := by decide +kernel
theorem dX10_mean_42 : decode cX10_mean 42 = .ok (.iadd, 1) := by decide +kernel
theorem dX10_mean_43 : decode cX10_mean 43 = .ok (.iaload, 1) := by decide +kernel
theorem dX10_mean_44 : decode cX10_mean 44 = .ok (.i2d, 1) := by decide +kernel
theorem dX10_mean_45 : decode cX10_mean 45 = .ok (.dadd, 1) := by decide +kernel
theorem dX10_mean_46 : decode cX10_mean 46 = .ok (.dstore_n 1, 1) := by decide +kernel
theorem dX10_mean_47 : decode cX10_mean 47 = .ok (.iinc 3 1, 3) := by decide +kernel
theorem dX10_mean_50 : decode cX10_mean 50 = .ok (.iinc 4 1, 3) := by decide +kernel
theorem dX10_mean_53 : decode cX10_mean 53 = .ok (.goto (-46), 3) := by decide +kernel
theorem dX10_mean_56 : decode cX10_mean 56 = .ok (.iload_n 3, 1) := by decide +kernel
theorem dX10_mean_57 : decode cX10_mean 57 = .ok (.ifCond .ne 7, 3) := by decide +kernel
theorem dX10_mean_60 : decode cX10_mean 60 = .ok (.lconst 0, 1) := by decide +kernel
theorem dX10_mean_61 : decode cX10_mean 61 = .ok (.goto 10, 3) := by decide +kernel
theorem dX10_mean_64 : decode cX10_mean 64 = .ok (.dload_n 1, 1) := by decide +kernel
theorem dX10_mean_65 : decode cX10_mean 65 = .ok (.iload_n 3, 1) := by decide +kernel
theorem dX10_mean_66 : decode cX10_mean 66 = .ok (.i2d, 1) := by decide +kernel
theorem dX10_mean_67 : decode cX10_mean 67 = .ok (.ddiv, 1) := by decide +kernel
theorem dX10_mean_68 : decode cX10_mean 68 = .ok (.invokestatic 218, 3) := by decide +kernel
theorem dX10_mean_71 : decode cX10_mean 71 = .ok (.lreturn, 1) := by decide +kernel
theorem dX10_oddSet_0 : decode cX10_oddSet 0 = .ok (.iconst 0, 1) := by decide +kernel
theorem dX10_oddSet_1 : decode cX10_oddSet 1 = .ok (.istore_n 1, 1) := by decide +kernel
theorem dX10_oddSet_2 : decode cX10_oddSet 2 = .ok (.iconst 0, 1) := by decide +kernel
theorem dX10_oddSet_3 : decode cX10_oddSet 3 = .ok (.istore_n 2, 1) := by decide +kernel
theorem dX10_oddSet_4 : decode cX10_oddSet 4 = .ok (.iload_n 2, 1) := by decide +kernel
theorem dX10_oddSet_5 : decode cX10_oddSet 5 = .ok (.bipush 6, 2) := by decide +kernel
theorem dX10_oddSet_7 : decode cX10_oddSet 7 = .ok (.if_icmp .ge 21, 3) := by decide +kernel
theorem dX10_oddSet_10 : decode cX10_oddSet 10 = .ok (.iload_n 1, 1) := by decide +kernel
theorem dX10_oddSet_11 : decode cX10_oddSet 11 = .ok (.aload_n 0, 1) := by decide +kernel
theorem dX10_oddSet_12 : decode cX10_oddSet 12 = .ok (.iload_n 2, 1) := by decide +kernel
theorem dX10_oddSet_13 : decode cX10_oddSet 13 = .ok (.invokestatic 182, 3) := by decide +kernel
theorem dX10_oddSet_16 : decode cX10_oddSet 16 = .ok (.iconst 2, 1) := by decide +kernel
theorem dX10_oddSet_17 : decode cX10_oddSet 17 = .ok (.irem, 1) := by decide +kernel
theorem dX10_oddSet_18 : decode cX10_oddSet 18 = .ok (.iload_n 2, 1) := by decide +kernel
theorem dX10_oddSet_19 : decode cX10_oddSet 19 = .ok (.ishl, 1) := by decide +kernel
theorem dX10_oddSet_20 : decode cX10_oddSet 20 = .ok (.ior, 1) := by decide +kernel
theorem dX10_oddSet_21 : decode cX10_oddSet 21 = .ok (.istore_n 1, 1) := by decide +kernel
theorem dX10_oddSet_22 : decode cX10_oddSet 22 = .ok (.iinc 2 1, 3) := by decide +kernel
theorem dX10_oddSet_25 : decode cX10_oddSet 25 = .ok (.goto (-21), 3) := by decide +kernel
theorem dX10_oddSet_28 : decode cX10_oddSet 28 = .ok (.iload_n 1, 1) := by decide +kernel
theorem dX10_oddSet_29 : decode cX10_oddSet 29 = .ok (.ireturn, 1) := by decide +kernel
theorem dX10_odd_0 : decode cX10_odd 0 = .ok (.aload_n 0, 1) := by decide +kernel
theorem dX10_odd_1 : decode cX10_odd 1 = .ok (.getfield 9, 3) := by decide +kernel
theorem dX10_odd_4 : decode cX10_odd 4 = .ok (.invokestatic 224, 3) := by decide +kernel
theorem dX10_odd_7 : decode cX10_odd 7 = .ok (.ireturn, 1) := by decide +kernel
theorem dX10_byTwos_0 : decode cX10_byTwos 0 = .ok (.iload_n 1, 1) := by decide +kernel
theorem dX10_byTwos_1 : decode cX10_byTwos 1 = .ok (.ifCond .ne 5, 3) := by decide +kernel
theorem dX10_byTwos_4 : decode cX10_byTwos 4 = .ok (.iconst 0, 1) := by decide +kernel
theorem dX10_byTwos_5 : decode cX10_byTwos 5 = .ok (.ireturn, 1) := by decide +kernel
theorem dX10_byTwos_6 : decode cX10_byTwos 6 = .ok (.iload_n 1, 1) := by decide +kernel
theorem dX10_byTwos_7 : decode cX10_byTwos 7 = .ok (.invokestatic 227, 3) := by decide +kernel
theorem dX10_byTwos_10 : decode cX10_byTwos 10 = .ok (.istore_n 2, 1) := by decide +kernel
theorem dX10_byTwos_11 : decode cX10_byTwos 11 = .ok (.ldc 98, 2) := by decide +kernel
theorem dX10_byTwos_13 : decode cX10_byTwos 13 = .ok (.istore_n 3, 1) := by decide +kernel
theorem dX10_byTwos_14 : decode cX10_byTwos 14 = .ok (.iload_n 2, 1) := by decide +kernel
theorem dX10_byTwos_15 : decode cX10_byTwos 15 = .ok (.iconst 1, 1) := by decide +kernel
theorem dX10_byTwos_16 : decode cX10_byTwos 16 = .ok (.iadd, 1) := by decide +kernel
theorem dX10_byTwos_17 : decode cX10_byTwos 17 = .ok (.istore 4, 2) := by decide +kernel
theorem dX10_byTwos_19 : decode cX10_byTwos 19 = .ok (.iload 4, 2) := by decide +kernel
theorem dX10_byTwos_21 : decode cX10_byTwos 21 = .ok (.bipush 6, 2) := by decide +kernel
theorem dX10_byTwos_23 : decode cX10_byTwos 23 = .ok (.if_icmp .ge 48, 3) := by decide +kernel
theorem dX10_byTwos_26 : decode cX10_byTwos 26 = .ok (.iload_n 1, 1) := by decide +kernel
theorem dX10_byTwos_27 : decode cX10_byTwos 27 = .ok (.iload 4, 2) := by decide +kernel
theorem dX10_byTwos_29 : decode cX10_byTwos 29 = .ok (.ishr, 1) := by decide +kernel
theorem dX10_byTwos_30 : decode cX10_byTwos 30 = .ok (.iconst 1, 1) := by decide +kernel
theorem dX10_byTwos_31 : decode cX10_byTwos 31 = .ok (.iand, 1) := by decide +kernel
theorem dX10_byTwos_32 : decode cX10_byTwos 32 = .ok (.iconst 1, 1) := by decide +kernel
theorem dX10_byTwos_33 : decode cX10_byTwos 33 = .ok (.if_icmp .ne 32, 3) := by decide +kernel
theorem dX10_byTwos_36 : decode cX10_byTwos 36 = .ok (.iload_n 3, 1) := by decide +kernel
theorem dX10_byTwos_37 : decode cX10_byTwos 37 = .ok (.aload_n 0, 1) := by decide +kernel
theorem dX10_byTwos_38 : decode cX10_byTwos 38 = .ok (.iload_n 2, 1) := by decide +kernel
theorem dX10_byTwos_39 : decode cX10_byTwos 39 = .ok (.iload 4, 2) := by decide +kernel
theorem dX10_byTwos_41 : decode cX10_byTwos 41 = .ok (.invokevirtual 108, 3) := by decide +kernel
theorem dX10_byTwos_44 : decode cX10_byTwos 44 = .ok (.aload_n 0, 1) := by decide +kernel
theorem dX10_byTwos_45 : decode cX10_byTwos 45 = .ok (.iload_n 1, 1) := by decide +kernel
theorem dX10_byTwos_46 : decode cX10_byTwos 46 = .ok (.iconst 1, 1) := by decide +kernel
theorem dX10_byTwos_47 : decode cX10_byTwos 47 = .ok (.iload_n 2, 1) := by decide +kernel
theorem dX10_byTwos_48 : decode cX10_byTwos 48 = .ok (.ishl, 1) := by decide +kernel
theorem dX10_byTwos_49 : decode cX10_byTwos 49 = .ok (.iconst 1, 1) := by decide +kernel
theorem dX10_byTwos_50 : decode cX10_byTwos 50 = .ok (.iload 4, 2) := by decide +kernel
theorem dX10_byTwos_52 : decode cX10_byTwos 52 = .ok (.ishl, 1) := by decide +kernel
theorem dX10_byTwos_53 : decode cX10_byTwos 53 = .ok (.ior, 1) := by decide +kernel
theorem dX10_byTwos_54 : decode cX10_byTwos 54 = .ok (.iconst (-1), 1) := by decide +kernel
theorem dX10_byTwos_55 : decode cX10_byTwos 55 = .ok (.ixor, 1) := by decide +kernel
theorem dX10_byTwos_56 : decode cX10_byTwos 56 = .ok (.iand, 1) := by decide +kernel
theorem dX10_byTwos_57 : decode cX10_byTwos 57 = .ok (.invokevirtual 232, 3) := by decide +kernel
theorem dX10_byTwos_60 : decode cX10_byTwos 60 = .ok (.iadd, 1) := by decide +kernel
theorem dX10_byTwos_61 : decode cX10_byTwos 61 = .ok (.invokestatic 102, 3) := by decide +kernel
theorem dX10_byTwos_64 : decode cX10_byTwos 64 = .ok (.istore_n 3, 1) := by decide +kernel
theorem dX10_byTwos_65 : decode cX10_byTwos 65 = .ok (.iinc 4 1, 3) := by decide +kernel
theorem dX10_byTwos_68 : decode cX10_byTwos 68 = .ok (.goto (-49), 3) := by decide +kernel
theorem dX10_byTwos_71 : decode cX10_byTwos 71 = .ok (.iload_n 3, 1) := by decide +kernel
theorem dX10_byTwos_72 : decode cX10_byTwos 72 = .ok (.ireturn, 1) := by decide +kernel
theorem dX10_matches_0 : decode cX10_matches 0 = .ok (.aload_n 0, 1) := by decide +kernel
theorem dX10_matches_1 : decode cX10_matches 1 = .ok (.aload_n 1, 1) := by decide +kernel
theorem dX10_matches_2 : decode cX10_matches 2 = .ok (.invokevirtual 185, 3) := by decide +kernel
theorem dX10_matches_5 : decode cX10_matches 5 = .ok (.iconst 0, 1) := by decide +kernel
theorem dX10_matches_6 : decode cX10_matches 6 = .ok (.istore_n 2, 1) := by decide +kernel
theorem dX10_matches_7 : decode cX10_matches 7 = .ok (.iload_n 2, 1) := by decide +kernel
theorem dX10_matches_8 : decode cX10_matches 8 = .ok (.bipush 6, 2) := by decide +kernel
theorem dX10_matches_10 : decode cX10_matches 10 = .ok (.if_icmp .ge 17, 3) := by decide +kernel
theorem dX10_matches_13 : decode cX10_matches 13 = .ok (.aload_n 0, 1) := by decide +kernel
theorem dX10_matches_14 : decode cX10_matches 14 = .ok (.getfield 37, 3) := by decide +kernel
theorem dX10_matches_17 : decode cX10_matches 17 = .ok (.iload_n 2, 1) := by decide +kernel
theorem dX10_matches_18 : decode cX10_matches 18 = .ok (.bipush (-9), 2) := by decide +kernel
theorem dX10_matches_20 : decode cX10_matches 20 = .ok (.iastore, 1) := by decide +kernel
theorem dX10_matches_21 : decode cX10_matches 21 = .ok (.iinc 2 1, 3) := by decide +kernel
theorem dX10_matches_24 : decode cX10_matches 24 = .ok (.goto (-17), 3) := by decide +kernel
theorem dX10_matches_27 : decode cX10_matches 27 = .ok (.aload_n 1, 1) := by decide +kernel
theorem dX10_matches_28 : decode cX10_matches 28 = .ok (.invokestatic 224, 3) := by decide +kernel
theorem dX10_matches_31 : decode cX10_matches 31 = .ok (.istore_n 2, 1) := by decide +kernel
theorem dX10_matches_32 : decode cX10_matches 32 = .ok (.aload_n 0, 1) := by decide +kernel
theorem dX10_matches_33 : decode cX10_matches 33 = .ok (.iload_n 2, 1) := by decide +kernel
theorem dX10_matches_34 : decode cX10_matches 34 = .ok (.invokevirtual 232, 3) := by decide +kernel
theorem dX10_matches_37 : decode cX10_matches 37 = .ok (.istore_n 3, 1) := by decide +kernel
theorem dX10_matches_38 : decode cX10_matches 38 = .ok (.iload_n 3, 1) := by decide +kernel
theorem dX10_matches_39 : decode cX10_matches 39 = .ok (.ldc 98, 2) := by decide +kernel
theorem dX10_matches_41 : decode cX10_matches 41 = .ok (.if_icmp .lt 6, 3) := by decide +kernel
theorem dX10_matches_44 : decode cX10_matches 44 = .ok (.bipush (-9), 2) := by decide +kernel
theorem dX10_matches_46 : decode cX10_matches 46 = .ok (.ireturn, 1) := by decide +kernel
theorem dX10_matches_47 : decode cX10_matches 47 = .ok (.iload_n 2, 1) := by decide +kernel
theorem dX10_matches_48 : decode cX10_matches 48 = .ok (.ifCond .eq 103, 3) := by decide +kernel
theorem dX10_matches_51 : decode cX10_matches 51 = .ok (.iload_n 2, 1) := by decide +kernel
theorem dX10_matches_52 : decode cX10_matches 52 = .ok (.invokestatic 227, 3) := by decide +kernel
theorem dX10_matches_55 : decode cX10_matches 55 = .ok (.istore 4, 2) := by decide +kernel
theorem dX10_matches_57 : decode cX10_matches 57 = .ok (.iload 4, 2) := by decide +kernel
theorem dX10_matches_59 : decode cX10_matches 59 = .ok (.iconst 1, 1) := by decide +kernel
theorem dX10_matches_60 : decode cX10_matches 60 = .ok (.iadd, 1) := by decide +kernel
theorem dX10_matches_61 : decode cX10_matches 61 = .ok (.istore 5, 2) := by decide +kernel
theorem dX10_matches_63 : decode cX10_matches 63 = .ok (.aload_n 0, 1) := by decide +kernel
theorem dX10_matches_64 : decode cX10_matches 64 = .ok (.iload_n 2, 1) := by decide +kernel
theorem dX10_matches_65 : decode cX10_matches 65 = .ok (.invokevirtual 232, 3) := by decide +kernel
theorem dX10_matches_68 : decode cX10_matches 68 = .ok (.istore 6, 2) := by decide +kernel
theorem dX10_matches_70 : decode cX10_matches 70 = .ok (.iload_n 2, 1) := by decide +kernel
theorem dX10_matches_71 : decode cX10_matches 71 = .ok (.iload 5, 2) := by decide +kernel
theorem dX10_matches_73 : decode cX10_matches 73 = .ok (.ishr, 1) := by decide +kernel
theorem dX10_matches_74 : decode cX10_matches 74 = .ok (.iconst 1, 1) := by decide +kernel
theorem dX10_matches_75 : decode cX10_matches 75 = .ok (.iand, 1) := by decide +kernel
theorem dX10_matches_76 : decode cX10_matches 76 = .ok (.ifCond .eq 34, 3) := by decide +kernel
theorem dX10_matches_79 : decode cX10_matches 79 = .ok (.aload_n 0, 1) := by decide +kernel
theorem dX10_matches_80 : decode cX10_matches 80 = .ok (.iload 4, 2) := by decide +kernel
theorem dX10_matches_82 : decode cX10_matches 82 = .ok (.iload 5, 2) := by decide +kernel
theorem dX10_matches_84 : decode cX10_matches 84 = .ok (.invokevirtual 108, 3) := by decide +kernel
theorem dX10_matches_87 : decode cX10_matches 87 = .ok (.aload_n 0, 1) := by decide +kernel
theorem dX10_matches_88 : decode cX10_matches 88 = .ok (.iload_n 2, 1) := by decide +kernel
theorem dX10_matches_89 : decode cX10_matches 89 = .ok (.iconst 1, 1) := by decide +kernel
theorem dX10_matches_90 : decode cX10_matches 90 = .ok (.iload 4, 2) := by decide +kernel
theorem dX10_matches_92 : decode cX10_matches 92 = .ok (.ishl, 1) := by decide +kernel
theorem dX10_matches_93 : decode cX10_matches 93 = .ok (.iconst 1, 1) := by decide +kernel
theorem dX10_matches_94 : decode cX10_matches 94 = .ok (.iload 5, 2) := by decide +kernel
theorem dX10_matches_96 : decode cX10_matches 96 = .ok (.ishl, 1) := by decide +kernel
theorem dX10_matches_97 : decode cX10_matches 97 = .ok (.ior, 1) := by decide +kernel
theorem dX10_matches_98 : decode cX10_matches 98 = .ok (.iconst (-1), 1) := by decide +kernel
theorem dX10_matches_99 : decode cX10_matches 99 = .ok (.ixor, 1) := by decide +kernel
theorem dX10_matches_100 : decode cX10_matches 100 = .ok (.iand, 1) := by decide +kernel
theorem dX10_matches_101 : decode cX10_matches 101 = .ok (.invokevirtual 232, 3) := by decide +kernel
theorem dX10_matches_104 : decode cX10_matches 104 = .ok (.iadd, 1) := by decide +kernel
theorem dX10_matches_105 : decode cX10_matches 105 = .ok (.iload 6, 2) := by decide +kernel
theorem dX10_matches_107 : decode cX10_matches 107 = .ok (.if_icmp .eq 9, 3) := by decide +kernel
theorem dX10_matches_110 : decode cX10_matches 110 = .ok (.iinc 5 1, 3) := by decide +kernel
theorem dX10_matches_113 : decode cX10_matches 113 = .ok (.goto (-43), 3) := by decide +kernel
theorem dX10_matches_116 : decode cX10_matches 116 = .ok (.aload_n 0, 1) := by decide +kernel
theorem dX10_matches_117 : decode cX10_matches 117 = .ok (.getfield 37, 3) := by decide +kernel
theorem dX10_matches_120 : decode cX10_matches 120 = .ok (.iload 4, 2) := by decide +kernel
theorem dX10_matches_122 : decode cX10_matches 122 = .ok (.iload 5, 2) := by decide +kernel
theorem dX10_matches_124 : decode cX10_matches 124 = .ok (.iastore, 1) := by decide +kernel
theorem dX10_matches_125 : decode cX10_matches 125 = .ok (.aload_n 0, 1) := by decide +kernel
theorem dX10_matches_126 : decode cX10_matches 126 = .ok (.getfield 37, 3) := by decide +kernel
theorem dX10_matches_129 : decode cX10_matches 129 = .ok (.iload 5, 2) := by decide +kernel
theorem dX10_matches_131 : decode cX10_matches 131 = .ok (.iload 4, 2) := by decide +kernel
theorem dX10_matches_133 : decode cX10_matches 133 = .ok (.iastore, 1) := by decide +kernel
theorem dX10_matches_134 : decode cX10_matches 134 = .ok (.iload_n 2, 1) := by decide +kernel
theorem dX10_matches_135 : decode cX10_matches 135 = .ok (.iconst 1, 1) := by decide +kernel
theorem dX10_matches_136 : decode cX10_matches 136 = .ok (.iload 4, 2) := by decide +kernel
theorem dX10_matches_138 : decode cX10_matches 138 = .ok (.ishl, 1) := by decide +kernel
theorem dX10_matches_139 : decode cX10_matches 139 = .ok (.iconst 1, 1) := by decide +kernel
theorem dX10_matches_140 : decode cX10_matches 140 = .ok (.iload 5, 2) := by decide +kernel
theorem dX10_matches_142 : decode cX10_matches 142 = .ok (.ishl, 1) := by decide +kernel
theorem dX10_matches_143 : decode cX10_matches 143 = .ok (.ior, 1) := by decide +kernel
theorem dX10_matches_144 : decode cX10_matches 144 = .ok (.iconst (-1), 1) := by decide +kernel
theorem dX10_matches_145 : decode cX10_matches 145 = .ok (.ixor, 1) := by decide +kernel
theorem dX10_matches_146 : decode cX10_matches 146 = .ok (.iand, 1) := by decide +kernel
theorem dX10_matches_147 : decode cX10_matches 147 = .ok (.istore_n 2, 1) := by decide +kernel
theorem dX10_matches_148 : decode cX10_matches 148 = .ok (.goto (-101), 3) := by decide +kernel
theorem dX10_matches_151 : decode cX10_matches 151 = .ok (.iload_n 3, 1) := by decide +kernel
theorem dX10_matches_152 : decode cX10_matches 152 = .ok (.ireturn, 1) := by decide +kernel
theorem dX10_matched_0 : decode cX10_matched 0 = .ok (.iload_n 1, 1) := by decide +kernel
theorem dX10_matched_1 : decode cX10_matched 1 = .ok (.invokestatic 92, 3) := by decide +kernel
theorem dX10_matched_4 : decode cX10_matched 4 = .ok (.ifCond .ne 9, 3) := by decide +kernel
theorem dX10_matched_7 : decode cX10_matched 7 = .ok (.aload_n 0, 1) := by decide +kernel
theorem dX10_matched_8 : decode cX10_matched 8 = .ok (.iconst (-1), 1) := by decide +kernel
theorem dX10_matched_9 : decode cX10_matched 9 = .ok (.invokevirtual 66, 3) := by decide +kernel
theorem dX10_matched_12 : decode cX10_matched 12 = .ok (.ireturn, 1) := by decide +kernel
theorem dX10_matched_13 : decode cX10_matched 13 = .ok (.aload_n 0, 1) := by decide +kernel
theorem dX10_matched_14 : decode cX10_matched 14 = .ok (.aload_n 0, 1) := by decide +kernel
theorem dX10_matched_15 : decode cX10_matched 15 = .ok (.getfield 9, 3) := by decide +kernel
theorem dX10_matched_18 : decode cX10_matched 18 = .ok (.invokevirtual 235, 3) := by decide +kernel
theorem dX10_matched_21 : decode cX10_matched 21 = .ok (.istore_n 2, 1) := by decide +kernel
theorem dX10_matched_22 : decode cX10_matched 22 = .ok (.aload_n 0, 1) := by decide +kernel
theorem dX10_matched_23 : decode cX10_matched 23 = .ok (.getfield 37, 3) := by decide +kernel
theorem dX10_matched_26 : decode cX10_matched 26 = .ok (.iload_n 1, 1) := by decide +kernel
theorem dX10_matched_27 : decode cX10_matched 27 = .ok (.iaload, 1) := by decide +kernel
theorem dX10_matched_28 : decode cX10_matched 28 = .ok (.ireturn, 1) := by decide +kernel
theorem dX10_matching_0 : decode cX10_matching 0 = .ok (.aload_n 0, 1) := by decide +kernel
theorem dX10_matching_1 : decode cX10_matching 1 = .ok (.aload_n 0, 1) := by decide +kernel
theorem dX10_matching_2 : decode cX10_matching 2 = .ok (.getfield 9, 3) := by decide +kernel
theorem dX10_matching_5 : decode cX10_matching 5 = .ok (.invokevirtual 235, 3) := by decide +kernel
theorem dX10_matching_8 : decode cX10_matching 8 = .ok (.ireturn, 1) := by decide +kernel
theorem dX10_leftAt_0 : decode cX10_leftAt 0 = .ok (.iconst 0, 1) := by decide +kernel
theorem dX10_leftAt_1 : decode cX10_leftAt 1 = .ok (.istore_n 3, 1) := by decide +kernel
theorem dX10_leftAt_2 : decode cX10_leftAt 2 = .ok (.iload_n 3, 1) := by decide +kernel
theorem dX10_leftAt_3 : decode cX10_leftAt 3 = .ok (.aload_n 1, 1) := by decide +kernel
theorem dX10_leftAt_4 : decode cX10_leftAt 4 = .ok (.bipush 49, 2) := by decide +kernel
theorem dX10_leftAt_6 : decode cX10_leftAt 6 = .ok (.iaload, 1) := by decide +kernel
theorem dX10_leftAt_7 : decode cX10_leftAt 7 = .ok (.if_icmp .ge 39, 3) := by decide +kernel
theorem dX10_leftAt_10 : decode cX10_leftAt 10 = .ok (.aload_n 0, 1) := by decide +kernel
theorem dX10_leftAt_11 : decode cX10_leftAt 11 = .ok (.getfield 40, 3) := by decide +kernel
theorem dX10_leftAt_14 : decode cX10_leftAt 14 = .ok (.iload_n 3, 1) := by decide +kernel
theorem dX10_leftAt_15 : decode cX10_leftAt 15 = .ok (.iaload, 1) := by decide +kernel
theorem dX10_leftAt_16 : decode cX10_leftAt 16 = .ok (.ifCond .le 24, 3) := by decide +kernel
theorem dX10_leftAt_19 : decode cX10_leftAt 19 = .ok (.aload_n 1, 1) := by decide +kernel
theorem dX10_leftAt_20 : decode cX10_leftAt 20 = .ok (.iconst 0, 1) := by decide +kernel
theorem dX10_leftAt_21 : decode cX10_leftAt 21 = .ok (.iload_n 3, 1) := by decide +kernel
theorem dX10_leftAt_22 : decode cX10_leftAt 22 = .ok (.iadd, 1) := by decide +kernel
theorem dX10_leftAt_23 : decode cX10_leftAt 23 = .ok (.iaload, 1) := by decide +kernel
theorem dX10_leftAt_24 : decode cX10_leftAt 24 = .ok (.iload_n 2, 1) := by decide +kernel
theorem dX10_leftAt_25 : decode cX10_leftAt 25 = .ok (.if_icmp .eq 13, 3) := by decide +kernel
theorem dX10_leftAt_28 : decode cX10_leftAt 28 = .ok (.aload_n 1, 1) := by decide +kernel
theorem dX10_leftAt_29 : decode cX10_leftAt 29 = .ok (.bipush 8, 2) := by decide +kernel
theorem dX10_leftAt_31 : decode cX10_leftAt 31 = .ok (.iload_n 3, 1) := by decide +kernel
theorem dX10_leftAt_32 : decode cX10_leftAt 32 = .ok (.iadd, 1) := by decide +kernel
theorem dX10_leftAt_33 : decode cX10_leftAt 33 = .ok (.iaload, 1) := by decide +kernel
theorem dX10_leftAt_34 : decode cX10_leftAt 34 = .ok (.iload_n 2, 1) := by decide +kernel
theorem dX10_leftAt_35 : decode cX10_leftAt 35 = .ok (.if_icmp .ne 5, 3) := by decide +kernel
theorem dX10_leftAt_38 : decode cX10_leftAt 38 = .ok (.iload_n 3, 1) := by decide +kernel
theorem dX10_leftAt_39 : decode cX10_leftAt 39 = .ok (.ireturn, 1) := by decide +kernel
theorem dX10_leftAt_40 : decode cX10_leftAt 40 = .ok (.iinc 3 1, 3) := by decide +kernel
theorem dX10_leftAt_43 : decode cX10_leftAt 43 = .ok (.goto (-41), 3) := by decide +kernel
theorem dX10_leftAt_46 : decode cX10_leftAt 46 = .ok (.bipush (-9), 2) := by decide +kernel
theorem dX10_leftAt_48 : decode cX10_leftAt 48 = .ok (.ireturn, 1) := by decide +kernel
theorem dX10_putsIn_0 : decode cX10_putsIn 0 = .ok (.iconst 0, 1) := by decide +kernel
theorem dX10_putsIn_1 : decode cX10_putsIn 1 = .ok (.istore_n 3, 1) := by decide +kernel
theorem dX10_putsIn_2 : decode cX10_putsIn 2 = .ok (.aload_n 0, 1) := by decide +kernel
theorem dX10_putsIn_3 : decode cX10_putsIn 3 = .ok (.getfield 43, 3) := by decide +kernel
theorem dX10_putsIn_6 : decode cX10_putsIn 6 = .ok (.iload_n 2, 1) := by decide +kernel
theorem dX10_putsIn_7 : decode cX10_putsIn 7 = .ok (.iaload, 1) := by decide +kernel
theorem dX10_putsIn_8 : decode cX10_putsIn 8 = .ok (.istore 4, 2) := by decide +kernel
theorem dX10_putsIn_10 : decode cX10_putsIn 10 = .ok (.aload_n 0, 1) := by decide +kernel
theorem dX10_putsIn_11 : decode cX10_putsIn 11 = .ok (.aload_n 1, 1) := by decide +kernel
theorem dX10_putsIn_12 : decode cX10_putsIn 12 = .ok (.iload 4, 2) := by decide +kernel
theorem dX10_putsIn_14 : decode cX10_putsIn 14 = .ok (.invokevirtual 238, 3) := by decide +kernel
theorem dX10_putsIn_17 : decode cX10_putsIn 17 = .ok (.istore 5, 2) := by decide +kernel
theorem dX10_putsIn_19 : decode cX10_putsIn 19 = .ok (.iload 5, 2) := by decide +kernel
theorem dX10_putsIn_21 : decode cX10_putsIn 21 = .ok (.ifCond .lt 56, 3) := by decide +kernel
theorem dX10_putsIn_24 : decode cX10_putsIn 24 = .ok (.aload_n 0, 1) := by decide +kernel
theorem dX10_putsIn_25 : decode cX10_putsIn 25 = .ok (.getfield 40, 3) := by decide +kernel
theorem dX10_putsIn_28 : decode cX10_putsIn 28 = .ok (.iload 5, 2) := by decide +kernel
theorem dX10_putsIn_30 : decode cX10_putsIn 30 = .ok (.dup2, 1) := by decide +kernel
theorem dX10_putsIn_31 : decode cX10_putsIn 31 = .ok (.iaload, 1) := by decide +kernel
theorem dX10_putsIn_32 : decode cX10_putsIn 32 = .ok (.iconst 1, 1) := by decide +kernel
theorem dX10_putsIn_33 : decode cX10_putsIn 33 = .ok (.isub, 1) := by decide +kernel
theorem dX10_putsIn_34 : decode cX10_putsIn 34 = .ok (.iastore, 1) := by decide +kernel
theorem dX10_putsIn_35 : decode cX10_putsIn 35 = .ok (.aload_n 1, 1) := by decide +kernel
theorem dX10_putsIn_36 : decode cX10_putsIn 36 = .ok (.iconst 0, 1) := by decide +kernel
theorem dX10_putsIn_37 : decode cX10_putsIn 37 = .ok (.iload 5, 2) := by decide +kernel
theorem dX10_putsIn_39 : decode cX10_putsIn 39 = .ok (.iadd, 1) := by decide +kernel
theorem dX10_putsIn_40 : decode cX10_putsIn 40 = .ok (.iaload, 1) := by decide +kernel
theorem dX10_putsIn_41 : decode cX10_putsIn 41 = .ok (.aload_n 1, 1) := by decide +kernel
theorem dX10_putsIn_42 : decode cX10_putsIn 42 = .ok (.bipush 8, 2) := by decide +kernel
theorem dX10_putsIn_44 : decode cX10_putsIn 44 = .ok (.iload 5, 2) := by decide +kernel
theorem dX10_putsIn_46 : decode cX10_putsIn 46 = .ok (.iadd, 1) := by decide +kernel
theorem dX10_putsIn_47 : decode cX10_putsIn 47 = .ok (.iaload, 1) := by decide +kernel
theorem dX10_putsIn_48 : decode cX10_putsIn 48 = .ok (.iadd, 1) := by decide +kernel
theorem dX10_putsIn_49 : decode cX10_putsIn 49 = .ok (.iload 4, 2) := by decide +kernel
theorem dX10_putsIn_51 : decode cX10_putsIn 51 = .ok (.isub, 1) := by decide +kernel
theorem dX10_putsIn_52 : decode cX10_putsIn 52 = .ok (.istore 4, 2) := by decide +kernel
theorem dX10_putsIn_54 : decode cX10_putsIn 54 = .ok (.aload_n 0, 1) := by decide +kernel
theorem dX10_putsIn_55 : decode cX10_putsIn 55 = .ok (.getfield 46, 3) := by decide +kernel
theorem dX10_putsIn_58 : decode cX10_putsIn 58 = .ok (.iload_n 3, 1) := by decide +kernel
theorem dX10_putsIn_59 : decode cX10_putsIn 59 = .ok (.iload 4, 2) := by decide +kernel
theorem dX10_putsIn_61 : decode cX10_putsIn 61 = .ok (.iastore, 1) := by decide +kernel
theorem dX10_putsIn_62 : decode cX10_putsIn 62 = .ok (.iinc 3 1, 3) := by decide +kernel
theorem dX10_putsIn_65 : decode cX10_putsIn 65 = .ok (.aload_n 0, 1) := by decide +kernel
theorem dX10_putsIn_66 : decode cX10_putsIn 66 = .ok (.aload_n 1, 1) := by decide +kernel
theorem dX10_putsIn_67 : decode cX10_putsIn 67 = .ok (.iload 4, 2) := by decide +kernel
theorem dX10_putsIn_69 : decode cX10_putsIn 69 = .ok (.invokevirtual 238, 3) := by decide +kernel
theorem dX10_putsIn_72 : decode cX10_putsIn 72 = .ok (.istore 5, 2) := by decide +kernel
theorem dX10_putsIn_74 : decode cX10_putsIn 74 = .ok (.goto (-55), 3) := by decide +kernel
theorem dX10_putsIn_77 : decode cX10_putsIn 77 = .ok (.aload_n 0, 1) := by decide +kernel
theorem dX10_putsIn_78 : decode cX10_putsIn 78 = .ok (.getfield 241, 3) := by decide +kernel
theorem dX10_putsIn_81 : decode cX10_putsIn 81 = .ok (.iconst 1, 1) := by decide +kernel
theorem dX10_putsIn_82 : decode cX10_putsIn 82 = .ok (.isub, 1) := by decide +kernel
theorem dX10_putsIn_83 : decode cX10_putsIn 83 = .ok (.istore 6, 2) := by decide +kernel
theorem dX10_putsIn_85 : decode cX10_putsIn 85 = .ok (.iload 6, 2) := by decide +kernel
theorem dX10_putsIn_87 : decode cX10_putsIn 87 = .ok (.iload_n 2, 1) := by decide +kernel
theorem dX10_putsIn_88 : decode cX10_putsIn 88 = .ok (.if_icmp .le 25, 3) := by decide +kernel
theorem dX10_putsIn_91 : decode cX10_putsIn 91 = .ok (.aload_n 0, 1) := by decide +kernel
theorem dX10_putsIn_92 : decode cX10_putsIn 92 = .ok (.getfield 43, 3) := by decide +kernel
theorem dX10_putsIn_95 : decode cX10_putsIn 95 = .ok (.iload 6, 2) := by decide +kernel
theorem dX10_putsIn_97 : decode cX10_putsIn 97 = .ok (.iload_n 3, 1) := by decide +kernel
theorem dX10_putsIn_98 : decode cX10_putsIn 98 = .ok (.iadd, 1) := by decide +kernel
theorem dX10_putsIn_99 : decode cX10_putsIn 99 = .ok (.aload_n 0, 1) := by decide +kernel
theorem dX10_putsIn_100 : decode cX10_putsIn 100 = .ok (.getfield 43, 3) := by decide +kernel
theorem dX10_putsIn_103 : decode cX10_putsIn 103 = .ok (.iload 6, 2) := by decide +kernel
theorem dX10_putsIn_105 : decode cX10_putsIn 105 = .ok (.iaload, 1) := by decide +kernel
theorem dX10_putsIn_106 : decode cX10_putsIn 106 = .ok (.iastore, 1) := by decide +kernel
theorem dX10_putsIn_107 : decode cX10_putsIn 107 = .ok (.iinc 6 (-1), 3) := by decide +kernel
theorem dX10_putsIn_110 : decode cX10_putsIn 110 = .ok (.goto (-25), 3) := by decide +kernel
theorem dX10_putsIn_113 : decode cX10_putsIn 113 = .ok (.iconst 0, 1) := by decide +kernel
theorem dX10_putsIn_114 : decode cX10_putsIn 114 = .ok (.istore 6, 2) := by decide +kernel
theorem dX10_putsIn_116 : decode cX10_putsIn 116 = .ok (.iload 6, 2) := by decide +kernel
theorem dX10_putsIn_118 : decode cX10_putsIn 118 = .ok (.iload_n 3, 1) := by decide +kernel
theorem dX10_putsIn_119 : decode cX10_putsIn 119 = .ok (.if_icmp .ge 27, 3) := by decide +kernel
theorem dX10_putsIn_122 : decode cX10_putsIn 122 = .ok (.aload_n 0, 1) := by decide +kernel
theorem dX10_putsIn_123 : decode cX10_putsIn 123 = .ok (.getfield 43, 3) := by decide +kernel
theorem dX10_putsIn_126 : decode cX10_putsIn 126 = .ok (.iload_n 2, 1) := by decide +kernel
theorem dX10_putsIn_127 : decode cX10_putsIn 127 = .ok (.iconst 1, 1) := by decide +kernel
theorem dX10_putsIn_128 : decode cX10_putsIn 128 = .ok (.iadd, 1) := by decide +kernel
theorem dX10_putsIn_129 : decode cX10_putsIn 129 = .ok (.iload 6, 2) := by decide +kernel
theorem dX10_putsIn_131 : decode cX10_putsIn 131 = .ok (.iadd, 1) := by decide +kernel
theorem dX10_putsIn_132 : decode cX10_putsIn 132 = .ok (.aload_n 0, 1) := by decide +kernel
theorem dX10_putsIn_133 : decode cX10_putsIn 133 = .ok (.getfield 46, 3) := by decide +kernel
theorem dX10_putsIn_136 : decode cX10_putsIn 136 = .ok (.iload 6, 2) := by decide +kernel
theorem dX10_putsIn_138 : decode cX10_putsIn 138 = .ok (.iaload, 1) := by decide +kernel
theorem dX10_putsIn_139 : decode cX10_putsIn 139 = .ok (.iastore, 1) := by decide +kernel
theorem dX10_putsIn_140 : decode cX10_putsIn 140 = .ok (.iinc 6 1, 3) := by decide +kernel
theorem dX10_putsIn_143 : decode cX10_putsIn 143 = .ok (.goto (-27), 3) := by decide +kernel
theorem dX10_putsIn_146 : decode cX10_putsIn 146 = .ok (.aload_n 0, 1) := by decide +kernel
theorem dX10_putsIn_147 : decode cX10_putsIn 147 = .ok (.dup, 1) := by decide +kernel
theorem dX10_putsIn_148 : decode cX10_putsIn 148 = .ok (.getfield 241, 3) := by decide +kernel
theorem dX10_putsIn_151 : decode cX10_putsIn 151 = .ok (.iload_n 3, 1) := by decide +kernel
theorem dX10_putsIn_152 : decode cX10_putsIn 152 = .ok (.iadd, 1) := by decide +kernel
theorem dX10_putsIn_153 : decode cX10_putsIn 153 = .ok (.putfield 241, 3) := by decide +kernel
theorem dX10_putsIn_156 : decode cX10_putsIn 156 = .ok (.return_, 1) := by decide +kernel
theorem dX10_splices_0 : decode cX10_splices 0 = .ok (.aload_n 0, 1) := by decide +kernel
theorem dX10_splices_1 : decode cX10_splices 1 = .ok (.aload_n 1, 1) := by decide +kernel
theorem dX10_splices_2 : decode cX10_splices 2 = .ok (.invokevirtual 235, 3) := by decide +kernel
theorem dX10_splices_5 : decode cX10_splices 5 = .ok (.ifCond .ge 5, 3) := by decide +kernel
theorem dX10_splices_8 : decode cX10_splices 8 = .ok (.iconst 0, 1) := by decide +kernel
theorem dX10_splices_9 : decode cX10_splices 9 = .ok (.ireturn, 1) := by decide +kernel
theorem dX10_splices_10 : decode cX10_splices 10 = .ok (.iconst 0, 1) := by decide +kernel
theorem dX10_splices_11 : decode cX10_splices 11 = .ok (.istore_n 2, 1) := by decide +kernel
theorem dX10_splices_12 : decode cX10_splices 12 = .ok (.iload_n 2, 1) := by decide +kernel
theorem dX10_splices_13 : decode cX10_splices 13 = .ok (.aload_n 1, 1) := by decide +kernel
theorem dX10_splices_14 : decode cX10_splices 14 = .ok (.bipush 49, 2) := by decide +kernel
theorem dX10_splices_16 : decode cX10_splices 16 = .ok (.iaload, 1) := by decide +kernel
theorem dX10_splices_17 : decode cX10_splices 17 = .ok (.if_icmp .ge 28, 3) := by decide +kernel
theorem dX10_splices_20 : decode cX10_splices 20 = .ok (.aload_n 0, 1) := by decide +kernel
theorem dX10_splices_21 : decode cX10_splices 21 = .ok (.getfield 40, 3) := by decide +kernel
theorem dX10_splices_24 : decode cX10_splices 24 = .ok (.iload_n 2, 1) := by decide +kernel
theorem dX10_splices_25 : decode cX10_splices 25 = .ok (.aload_n 1, 1) := by decide +kernel
theorem dX10_splices_26 : decode cX10_splices 26 = .ok (.iload_n 2, 1) := by decide +kernel
theorem dX10_splices_27 : decode cX10_splices 27 = .ok (.invokestatic 88, 3) := by decide +kernel
theorem dX10_splices_30 : decode cX10_splices 30 = .ok (.ifCond .eq 7, 3) := by decide +kernel
theorem dX10_splices_33 : decode cX10_splices 33 = .ok (.iconst 1, 1) := by decide +kernel
theorem dX10_splices_34 : decode cX10_splices 34 = .ok (.goto 4, 3) := by decide +kernel
theorem dX10_splices_37 : decode cX10_splices 37 = .ok (.iconst 0, 1) := by decide +kernel
theorem dX10_splices_38 : decode cX10_splices 38 = .ok (.iastore, 1) := by decide +kernel
theorem dX10_splices_39 : decode cX10_splices 39 = .ok (.iinc 2 1, 3) := by decide +kernel
theorem dX10_splices_42 : decode cX10_splices 42 = .ok (.goto (-30), 3) := by decide +kernel
theorem dX10_splices_45 : decode cX10_splices 45 = .ok (.iconst 0, 1) := by decide +kernel
theorem dX10_splices_46 : decode cX10_splices 46 = .ok (.istore_n 2, 1) := by decide +kernel
theorem dX10_splices_47 : decode cX10_splices 47 = .ok (.iload_n 2, 1) := by decide +kernel
theorem dX10_splices_48 : decode cX10_splices 48 = .ok (.bipush 6, 2) := by decide +kernel
theorem dX10_splices_50 : decode cX10_splices 50 = .ok (.if_icmp .ge 91, 3) := by decide +kernel
theorem dX10_splices_53 : decode cX10_splices 53 = .ok (.aload_n 0, 1) := by decide +kernel
theorem dX10_splices_54 : decode cX10_splices 54 = .ok (.getfield 37, 3) := by decide +kernel
theorem dX10_splices_57 : decode cX10_splices 57 = .ok (.iload_n 2, 1) := by decide +kernel
theorem dX10_splices_58 : decode cX10_splices 58 = .ok (.iaload, 1) := by decide +kernel
theorem dX10_splices_59 : decode cX10_splices 59 = .ok (.iload_n 2, 1) := by decide +kernel
theorem dX10_splices_60 : decode cX10_splices 60 = .ok (.if_icmp .le 7, 3) := by decide +kernel
theorem dX10_splices_63 : decode cX10_splices 63 = .ok (.iload_n 2, 1) := by decide +kernel
theorem dX10_splices_64 : decode cX10_splices 64 = .ok (.goto 9, 3) := by decide +kernel
theorem dX10_splices_67 : decode cX10_splices 67 = .ok (.aload_n 0, 1) := by decide +kernel
theorem dX10_splices_68 : decode cX10_splices 68 = .ok (.getfield 37, 3) := by decide +kernel
theorem dX10_splices_71 : decode cX10_splices 71 = .ok (.iload_n 2, 1) := by decide +kernel
theorem dX10_splices_72 : decode cX10_splices 72 = .ok (.iaload, 1) := by decide +kernel
theorem dX10_splices_73 : decode cX10_splices 73 = .ok (.istore_n 3, 1) := by decide +kernel
theorem dX10_splices_74 : decode cX10_splices 74 = .ok (.iload_n 3, 1) := by decide +kernel
theorem dX10_splices_75 : decode cX10_splices 75 = .ok (.ifCond .lt 60, 3) := by decide +kernel
theorem dX10_splices_78 : decode cX10_splices 78 = .ok (.aload_n 0, 1) := by decide +kernel
theorem dX10_splices_79 : decode cX10_splices 79 = .ok (.getfield 37, 3) := by decide +kernel
theorem dX10_splices_82 : decode cX10_splices 82 = .ok (.iload_n 2, 1) := by decide +kernel
theorem dX10_splices_83 : decode cX10_splices 83 = .ok (.iaload, 1) := by decide +kernel
theorem dX10_splices_84 : decode cX10_splices 84 = .ok (.iload_n 2, 1) := by decide +kernel
theorem dX10_splices_85 : decode cX10_splices 85 = .ok (.if_icmp .le 50, 3) := by decide +kernel
theorem dX10_splices_88 : decode cX10_splices 88 = .ok (.iload_n 3, 1) := by decide +kernel
theorem dX10_splices_89 : decode cX10_splices 89 = .ok (.aload_n 0, 1) := by decide +kernel
theorem dX10_splices_90 : decode cX10_splices 90 = .ok (.getfield 37, 3) := by decide +kernel
theorem dX10_splices_93 : decode cX10_splices 93 = .ok (.iload_n 2, 1) := by decide +kernel
theorem dX10_splices_94 : decode cX10_splices 94 = .ok (.iaload, 1) := by decide +kernel
theorem dX10_splices_95 : decode cX10_splices 95 = .ok (.if_icmp .eq 40, 3) := by decide +kernel
theorem dX10_splices_98 : decode cX10_splices 98 = .ok (.aload_n 0, 1) := by decide +kernel
theorem dX10_splices_99 : decode cX10_splices 99 = .ok (.aload_n 1, 1) := by decide +kernel
theorem dX10_splices_100 : decode cX10_splices 100 = .ok (.iload_n 3, 1) := by decide +kernel
theorem dX10_splices_101 : decode cX10_splices 101 = .ok (.aload_n 0, 1) := by decide +kernel
theorem dX10_splices_102 : decode cX10_splices 102 = .ok (.getfield 37, 3) := by decide +kernel
theorem dX10_splices_105 : decode cX10_splices 105 = .ok (.iload_n 2, 1) := by decide +kernel
theorem dX10_splices_106 : decode cX10_splices 106 = .ok (.iaload, 1) := by decide +kernel
theorem dX10_splices_107 : decode cX10_splices 107 = .ok (.invokevirtual 189, 3) := by decide +kernel
theorem dX10_splices_110 : decode cX10_splices 110 = .ok (.istore 4, 2) := by decide +kernel
theorem dX10_splices_112 : decode cX10_splices 112 = .ok (.aload_n 0, 1) := by decide +kernel
theorem dX10_splices_113 : decode cX10_splices 113 = .ok (.getfield 40, 3) := by decide +kernel
theorem dX10_splices_116 : decode cX10_splices 116 = .ok (.iload 4, 2) := by decide +kernel
theorem dX10_splices_118 : decode cX10_splices 118 = .ok (.iconst 2, 1) := by decide +kernel
theorem dX10_splices_119 : decode cX10_splices 119 = .ok (.idiv, 1) := by decide +kernel
theorem dX10_splices_120 : decode cX10_splices 120 = .ok (.dup2, 1) := by decide +kernel
theorem dX10_splices_121 : decode cX10_splices 121 = .ok (.iaload, 1) := by decide +kernel
theorem dX10_splices_122 : decode cX10_splices 122 = .ok (.iconst 1, 1) := by decide +kernel
theorem dX10_splices_123 : decode cX10_splices 123 = .ok (.iadd, 1) := by decide +kernel
theorem dX10_splices_124 : decode cX10_splices 124 = .ok (.iastore, 1) := by decide +kernel
theorem dX10_splices_125 : decode cX10_splices 125 = .ok (.aload_n 1, 1) := by decide +kernel
theorem dX10_splices_126 : decode cX10_splices 126 = .ok (.iload 4, 2) := by decide +kernel
theorem dX10_splices_128 : decode cX10_splices 128 = .ok (.invokestatic 99, 3) := by decide +kernel
theorem dX10_splices_131 : decode cX10_splices 131 = .ok (.istore_n 3, 1) := by decide +kernel
theorem dX10_splices_132 : decode cX10_splices 132 = .ok (.goto (-58), 3) := by decide +kernel
theorem dX10_splices_135 : decode cX10_splices 135 = .ok (.iinc 2 1, 3) := by decide +kernel
theorem dX10_splices_138 : decode cX10_splices 138 = .ok (.goto (-91), 3) := by decide +kernel
theorem dX10_splices_141 : decode cX10_splices 141 = .ok (.aload_n 0, 1) := by decide +kernel
theorem dX10_splices_142 : decode cX10_splices 142 = .ok (.getfield 43, 3) := by decide +kernel
theorem dX10_splices_145 : decode cX10_splices 145 = .ok (.iconst 0, 1) := by decide +kernel
theorem dX10_splices_146 : decode cX10_splices 146 = .ok (.aload_n 1, 1) := by decide +kernel
theorem dX10_splices_147 : decode cX10_splices 147 = .ok (.bipush 48, 2) := by decide +kernel
theorem dX10_splices_149 : decode cX10_splices 149 = .ok (.iaload, 1) := by decide +kernel
theorem dX10_splices_150 : decode cX10_splices 150 = .ok (.iastore, 1) := by decide +kernel
theorem dX10_splices_151 : decode cX10_splices 151 = .ok (.aload_n 0, 1) := by decide +kernel
theorem dX10_splices_152 : decode cX10_splices 152 = .ok (.iconst 1, 1) := by decide +kernel
theorem dX10_splices_153 : decode cX10_splices 153 = .ok (.putfield 241, 3) := by decide +kernel
theorem dX10_splices_156 : decode cX10_splices 156 = .ok (.iconst 0, 1) := by decide +kernel
theorem dX10_splices_157 : decode cX10_splices 157 = .ok (.istore_n 2, 1) := by decide +kernel
theorem dX10_splices_158 : decode cX10_splices 158 = .ok (.iload_n 2, 1) := by decide +kernel
theorem dX10_splices_159 : decode cX10_splices 159 = .ok (.aload_n 0, 1) := by decide +kernel
theorem dX10_splices_160 : decode cX10_splices 160 = .ok (.getfield 241, 3) := by decide +kernel
theorem dX10_splices_163 : decode cX10_splices 163 = .ok (.if_icmp .ge 32, 3) := by decide +kernel
theorem dX10_splices_166 : decode cX10_splices 166 = .ok (.aload_n 0, 1) := by decide +kernel
theorem dX10_splices_167 : decode cX10_splices 167 = .ok (.aload_n 1, 1) := by decide +kernel
theorem dX10_splices_168 : decode cX10_splices 168 = .ok (.aload_n 0, 1) := by decide +kernel
theorem dX10_splices_169 : decode cX10_splices 169 = .ok (.getfield 43, 3) := by decide +kernel
theorem dX10_splices_172 : decode cX10_splices 172 = .ok (.iload_n 2, 1) := by decide +kernel
theorem dX10_splices_173 : decode cX10_splices 173 = .ok (.iaload, 1) := by decide +kernel
theorem dX10_splices_174 : decode cX10_splices 174 = .ok (.invokevirtual 238, 3) := by decide +kernel
theorem dX10_splices_177 : decode cX10_splices 177 = .ok (.ifCond .lt 12, 3) := by decide +kernel
theorem dX10_splices_180 : decode cX10_splices 180 = .ok (.aload_n 0, 1) := by decide +kernel
theorem dX10_splices_181 : decode cX10_splices 181 = .ok (.aload_n 1, 1) := by decide +kernel
theorem dX10_splices_182 : decode cX10_splices 182 = .ok (.iload_n 2, 1) := by decide +kernel
theorem dX10_splices_183 : decode cX10_splices 183 = .ok (.invokevirtual 244, 3) := by decide +kernel
theorem dX10_splices_186 : decode cX10_splices 186 = .ok (.goto (-28), 3) := by decide +kernel
theorem dX10_splices_189 : decode cX10_splices 189 = .ok (.iinc 2 1, 3) := by decide +kernel
theorem dX10_splices_192 : decode cX10_splices 192 = .ok (.goto (-34), 3) := by decide +kernel
theorem dX10_splices_195 : decode cX10_splices 195 = .ok (.iconst 1, 1) := by decide +kernel
theorem dX10_splices_196 : decode cX10_splices 196 = .ok (.ireturn, 1) := by decide +kernel
theorem dX10_spliced_0 : decode cX10_spliced 0 = .ok (.iload_n 1, 1) := by decide +kernel
theorem dX10_spliced_1 : decode cX10_spliced 1 = .ok (.iconst (-1), 1) := by decide +kernel
theorem dX10_spliced_2 : decode cX10_spliced 2 = .ok (.if_icmp .ge 10, 3) := by decide +kernel
theorem dX10_spliced_5 : decode cX10_spliced 5 = .ok (.aload_n 0, 1) := by decide +kernel
theorem dX10_spliced_6 : decode cX10_spliced 6 = .ok (.bipush (-4), 2) := by decide +kernel
theorem dX10_spliced_8 : decode cX10_spliced 8 = .ok (.invokevirtual 66, 3) := by decide +kernel
theorem dX10_spliced_11 : decode cX10_spliced 11 = .ok (.ireturn, 1) := by decide +kernel
theorem dX10_spliced_12 : decode cX10_spliced 12 = .ok (.aload_n 0, 1) := by decide +kernel
theorem dX10_spliced_13 : decode cX10_spliced 13 = .ok (.aload_n 0, 1) := by decide +kernel
theorem dX10_spliced_14 : decode cX10_spliced 14 = .ok (.getfield 9, 3) := by decide +kernel
theorem dX10_spliced_17 : decode cX10_spliced 17 = .ok (.invokevirtual 248, 3) := by decide +kernel
theorem dX10_spliced_20 : decode cX10_spliced 20 = .ok (.ifCond .ne 6, 3) := by decide +kernel
theorem dX10_spliced_23 : decode cX10_spliced 23 = .ok (.bipush (-9), 2) := by decide +kernel
theorem dX10_spliced_25 : decode cX10_spliced 25 = .ok (.ireturn, 1) := by decide +kernel
theorem dX10_spliced_26 : decode cX10_spliced 26 = .ok (.iload_n 1, 1) := by decide +kernel
theorem dX10_spliced_27 : decode cX10_spliced 27 = .ok (.iconst (-1), 1) := by decide +kernel
theorem dX10_spliced_28 : decode cX10_spliced 28 = .ok (.if_icmp .ne 10, 3) := by decide +kernel
theorem dX10_spliced_31 : decode cX10_spliced 31 = .ok (.aload_n 0, 1) := by decide +kernel
theorem dX10_spliced_32 : decode cX10_spliced 32 = .ok (.getfield 241, 3) := by decide +kernel
theorem dX10_spliced_35 : decode cX10_spliced 35 = .ok (.goto 22, 3) := by decide +kernel
theorem dX10_spliced_38 : decode cX10_spliced 38 = .ok (.iload_n 1, 1) := by decide +kernel
theorem dX10_spliced_39 : decode cX10_spliced 39 = .ok (.aload_n 0, 1) := by decide +kernel
theorem dX10_spliced_40 : decode cX10_spliced 40 = .ok (.getfield 241, 3) := by decide +kernel
theorem dX10_spliced_43 : decode cX10_spliced 43 = .ok (.if_icmp .ge 12, 3) := by decide +kernel
theorem dX10_spliced_46 : decode cX10_spliced 46 = .ok (.aload_n 0, 1) := by decide +kernel
theorem dX10_spliced_47 : decode cX10_spliced 47 = .ok (.getfield 43, 3) := by decide +kernel
theorem dX10_spliced_50 : decode cX10_spliced 50 = .ok (.iload_n 1, 1) := by decide +kernel
theorem dX10_spliced_51 : decode cX10_spliced 51 = .ok (.iaload, 1) := by decide +kernel
theorem dX10_spliced_52 : decode cX10_spliced 52 = .ok (.goto 5, 3) := by decide +kernel
theorem dX10_spliced_55 : decode cX10_spliced 55 = .ok (.bipush (-9), 2) := by decide +kernel
theorem dX10_spliced_57 : decode cX10_spliced 57 = .ok (.ireturn, 1) := by decide +kernel
theorem dX10_balanceOf_0 : decode cX10_balanceOf 0 = .ok (.iconst 0, 1) := by decide +kernel
theorem dX10_balanceOf_1 : decode cX10_balanceOf 1 = .ok (.istore_n 2, 1) := by decide +kernel
theorem dX10_balanceOf_2 : decode cX10_balanceOf 2 = .ok (.iconst 0, 1) := by decide +kernel
theorem dX10_balanceOf_3 : decode cX10_balanceOf 3 = .ok (.istore_n 3, 1) := by decide +kernel
theorem dX10_balanceOf_4 : decode cX10_balanceOf 4 = .ok (.iload_n 3, 1) := by decide +kernel
theorem dX10_balanceOf_5 : decode cX10_balanceOf 5 = .ok (.aload_n 0, 1) := by decide +kernel
theorem dX10_balanceOf_6 : decode cX10_balanceOf 6 = .ok (.bipush 49, 2) := by decide +kernel
theorem dX10_balanceOf_8 : decode cX10_balanceOf 8 = .ok (.iaload, 1) := by decide +kernel
theorem dX10_balanceOf_9 : decode cX10_balanceOf 9 = .ok (.if_icmp .ge 70, 3) := by decide +kernel
theorem dX10_balanceOf_12 : decode cX10_balanceOf 12 = .ok (.aload_n 0, 1) := by decide +kernel
theorem dX10_balanceOf_13 : decode cX10_balanceOf 13 = .ok (.bipush 40, 2) := by decide +kernel
theorem dX10_balanceOf_15 : decode cX10_balanceOf 15 = .ok (.iload_n 3, 1) := by decide +kernel
theorem dX10_balanceOf_16 : decode cX10_balanceOf 16 = .ok (.iadd, 1) := by decide +kernel
theorem dX10_balanceOf_17 : decode cX10_balanceOf 17 = .ok (.iaload, 1) := by decide +kernel
theorem dX10_balanceOf_18 : decode cX10_balanceOf 18 = .ok (.iconst 1, 1) := by decide +kernel
theorem dX10_balanceOf_19 : decode cX10_balanceOf 19 = .ok (.if_icmp .ne 54, 3) := by decide +kernel
theorem dX10_balanceOf_22 : decode cX10_balanceOf 22 = .ok (.aload_n 0, 1) := by decide +kernel
theorem dX10_balanceOf_23 : decode cX10_balanceOf 23 = .ok (.bipush 24, 2) := by decide +kernel
theorem dX10_balanceOf_25 : decode cX10_balanceOf 25 = .ok (.iload_n 3, 1) := by decide +kernel
theorem dX10_balanceOf_26 : decode cX10_balanceOf 26 = .ok (.iadd, 1) := by decide +kernel
theorem dX10_balanceOf_27 : decode cX10_balanceOf 27 = .ok (.iaload, 1) := by decide +kernel
theorem dX10_balanceOf_28 : decode cX10_balanceOf 28 = .ok (.iconst 1, 1) := by decide +kernel
theorem dX10_balanceOf_29 : decode cX10_balanceOf 29 = .ok (.if_icmp .eq 13, 3) := by decide +kernel
theorem dX10_balanceOf_32 : decode cX10_balanceOf 32 = .ok (.aload_n 0, 1) := by decide +kernel
theorem dX10_balanceOf_33 : decode cX10_balanceOf 33 = .ok (.bipush 24, 2) := by decide +kernel
theorem dX10_balanceOf_35 : decode cX10_balanceOf 35 = .ok (.iload_n 3, 1) := by decide +kernel
theorem dX10_balanceOf_36 : decode cX10_balanceOf 36 = .ok (.iadd, 1) := by decide +kernel
theorem dX10_balanceOf_37 : decode cX10_balanceOf 37 = .ok (.iaload, 1) := by decide +kernel
theorem dX10_balanceOf_38 : decode cX10_balanceOf 38 = .ok (.iconst 3, 1) := by decide +kernel
theorem dX10_balanceOf_39 : decode cX10_balanceOf 39 = .ok (.if_icmp .ne 34, 3) := by decide +kernel
theorem dX10_balanceOf_42 : decode cX10_balanceOf 42 = .ok (.iload_n 2, 1) := by decide +kernel
theorem dX10_balanceOf_43 : decode cX10_balanceOf 43 = .ok (.aload_n 0, 1) := by decide +kernel
theorem dX10_balanceOf_44 : decode cX10_balanceOf 44 = .ok (.iconst 0, 1) := by decide +kernel
theorem dX10_balanceOf_45 : decode cX10_balanceOf 45 = .ok (.iload_n 3, 1) := by decide +kernel
theorem dX10_balanceOf_46 : decode cX10_balanceOf 46 = .ok (.iadd, 1) := by decide +kernel
theorem dX10_balanceOf_47 : decode cX10_balanceOf 47 = .ok (.iaload, 1) := by decide +kernel
theorem dX10_balanceOf_48 : decode cX10_balanceOf 48 = .ok (.iload_n 1, 1) := by decide +kernel
theorem dX10_balanceOf_49 : decode cX10_balanceOf 49 = .ok (.if_icmp .ne 7, 3) := by decide +kernel
theorem dX10_balanceOf_52 : decode cX10_balanceOf 52 = .ok (.iconst 1, 1) := by decide +kernel
theorem dX10_balanceOf_53 : decode cX10_balanceOf 53 = .ok (.goto 18, 3) := by decide +kernel
theorem dX10_balanceOf_56 : decode cX10_balanceOf 56 = .ok (.aload_n 0, 1) := by decide +kernel
theorem dX10_balanceOf_57 : decode cX10_balanceOf 57 = .ok (.bipush 8, 2) := by decide +kernel
theorem dX10_balanceOf_59 : decode cX10_balanceOf 59 = .ok (.iload_n 3, 1) := by decide +kernel
theorem dX10_balanceOf_60 : decode cX10_balanceOf 60 = .ok (.iadd, 1) := by decide +kernel
theorem dX10_balanceOf_61 : decode cX10_balanceOf 61 = .ok (.iaload, 1) := by decide +kernel
theorem dX10_balanceOf_62 : decode cX10_balanceOf 62 = .ok (.iload_n 1, 1) := by decide +kernel
theorem dX10_balanceOf_63 : decode cX10_balanceOf 63 = .ok (.if_icmp .ne 7, 3) := by decide +kernel
theorem dX10_balanceOf_66 : decode cX10_balanceOf 66 = .ok (.iconst (-1), 1) := by decide +kernel
theorem dX10_balanceOf_67 : decode cX10_balanceOf 67 = .ok (.goto 4, 3) := by decide +kernel
theorem dX10_balanceOf_70 : decode cX10_balanceOf 70 = .ok (.iconst 0, 1) := by decide +kernel
theorem dX10_balanceOf_71 : decode cX10_balanceOf 71 = .ok (.iadd, 1) := by decide +kernel
theorem dX10_balanceOf_72 : decode cX10_balanceOf 72 = .ok (.istore_n 2, 1) := by decide +kernel
theorem dX10_balanceOf_73 : decode cX10_balanceOf 73 = .ok (.iinc 3 1, 3) := by decide +kernel
theorem dX10_balanceOf_76 : decode cX10_balanceOf 76 = .ok (.goto (-72), 3) := by decide +kernel
theorem dX10_balanceOf_79 : decode cX10_balanceOf 79 = .ok (.iload_n 2, 1) := by decide +kernel
theorem dX10_balanceOf_80 : decode cX10_balanceOf 80 = .ok (.ireturn, 1) := by decide +kernel
theorem dX10_balance_0 : decode cX10_balance 0 = .ok (.iload_n 1, 1) := by decide +kernel
theorem dX10_balance_1 : decode cX10_balance 1 = .ok (.invokestatic 92, 3) := by decide +kernel
theorem dX10_balance_4 : decode cX10_balance 4 = .ok (.ifCond .eq 14, 3) := by decide +kernel
theorem dX10_balance_7 : decode cX10_balance 7 = .ok (.aload_n 0, 1) := by decide +kernel
theorem dX10_balance_8 : decode cX10_balance 8 = .ok (.getfield 9, 3) := by decide +kernel
theorem dX10_balance_11 : decode cX10_balance 11 = .ok (.iload_n 1, 1) := by decide +kernel
theorem dX10_balance_12 : decode cX10_balance 12 = .ok (.invokestatic 252, 3) := by decide +kernel
theorem dX10_balance_15 : decode cX10_balance 15 = .ok (.goto 8, 3) := by decide +kernel
theorem dX10_balance_18 : decode cX10_balance 18 = .ok (.aload_n 0, 1) := by decide +kernel
theorem dX10_balance_19 : decode cX10_balance 19 = .ok (.iconst (-1), 1) := by decide +kernel
theorem dX10_balance_20 : decode cX10_balance 20 = .ok (.invokevirtual 211, 3) := by decide +kernel
theorem dX10_balance_23 : decode cX10_balance 23 = .ok (.ireturn, 1) := by decide +kernel
theorem dX10_flows_0 : decode cX10_flows 0 = .ok (.iconst 0, 1) := by decide +kernel
theorem dX10_flows_1 : decode cX10_flows 1 = .ok (.istore_n 1, 1) := by decide +kernel
theorem dX10_flows_2 : decode cX10_flows 2 = .ok (.iload_n 1, 1) := by decide +kernel
theorem dX10_flows_3 : decode cX10_flows 3 = .ok (.bipush 6, 2) := by decide +kernel
theorem dX10_flows_5 : decode cX10_flows 5 = .ok (.if_icmp .ge 18, 3) := by decide +kernel
theorem dX10_flows_8 : decode cX10_flows 8 = .ok (.aload_n 0, 1) := by decide +kernel
theorem dX10_flows_9 : decode cX10_flows 9 = .ok (.getfield 49, 3) := by decide +kernel
theorem dX10_flows_12 : decode cX10_flows 12 = .ok (.iload_n 1, 1) := by decide +kernel
theorem dX10_flows_13 : decode cX10_flows 13 = .ok (.iaload, 1) := by decide +kernel
theorem dX10_flows_14 : decode cX10_flows 14 = .ok (.ifCond .lt 9, 3) := by decide +kernel
theorem dX10_flows_17 : decode cX10_flows 17 = .ok (.iinc 1 1, 3) := by decide +kernel
theorem dX10_flows_20 : decode cX10_flows 20 = .ok (.goto (-18), 3) := by decide +kernel
theorem dX10_flows_23 : decode cX10_flows 23 = .ok (.iload_n 1, 1) := by decide +kernel
theorem dX10_flows_24 : decode cX10_flows 24 = .ok (.bipush 6, 2) := by decide +kernel
theorem dX10_flows_26 : decode cX10_flows 26 = .ok (.if_icmp .ne 5, 3) := by decide +kernel
theorem dX10_flows_29 : decode cX10_flows 29 = .ok (.iconst 0, 1) := by decide +kernel
theorem dX10_flows_30 : decode cX10_flows 30 = .ok (.ireturn, 1) := by decide +kernel
theorem dX10_flows_31 : decode cX10_flows 31 = .ok (.ldc 98, 2) := by decide +kernel
theorem dX10_flows_33 : decode cX10_flows 33 = .ok (.istore_n 2, 1) := by decide +kernel
theorem dX10_flows_34 : decode cX10_flows 34 = .ok (.aload_n 0, 1) := by decide +kernel
theorem dX10_flows_35 : decode cX10_flows 35 = .ok (.getfield 49, 3) := by decide +kernel
theorem dX10_flows_38 : decode cX10_flows 38 = .ok (.iload_n 1, 1) := by decide +kernel
theorem dX10_flows_39 : decode cX10_flows 39 = .ok (.dup2, 1) := by decide +kernel
theorem dX10_flows_40 : decode cX10_flows 40 = .ok (.iaload, 1) := by decide +kernel
theorem dX10_flows_41 : decode cX10_flows 41 = .ok (.iconst 1, 1) := by decide +kernel
theorem dX10_flows_42 : decode cX10_flows 42 = .ok (.iadd, 1) := by decide +kernel
theorem dX10_flows_43 : decode cX10_flows 43 = .ok (.iastore, 1) := by decide +kernel
theorem dX10_flows_44 : decode cX10_flows 44 = .ok (.iconst 0, 1) := by decide +kernel
theorem dX10_flows_45 : decode cX10_flows 45 = .ok (.istore_n 3, 1) := by decide +kernel
theorem dX10_flows_46 : decode cX10_flows 46 = .ok (.iload_n 3, 1) := by decide +kernel
theorem dX10_flows_47 : decode cX10_flows 47 = .ok (.bipush 6, 2) := by decide +kernel
theorem dX10_flows_49 : decode cX10_flows 49 = .ok (.if_icmp .ge 65, 3) := by decide +kernel
theorem dX10_flows_52 : decode cX10_flows 52 = .ok (.aload_n 0, 1) := by decide +kernel
theorem dX10_flows_53 : decode cX10_flows 53 = .ok (.getfield 49, 3) := by decide +kernel
theorem dX10_flows_56 : decode cX10_flows 56 = .ok (.iload_n 3, 1) := by decide +kernel
theorem dX10_flows_57 : decode cX10_flows 57 = .ok (.iaload, 1) := by decide +kernel
theorem dX10_flows_58 : decode cX10_flows 58 = .ok (.ifCond .le 50, 3) := by decide +kernel
theorem dX10_flows_61 : decode cX10_flows 61 = .ok (.aload_n 0, 1) := by decide +kernel
theorem dX10_flows_62 : decode cX10_flows 62 = .ok (.iload_n 1, 1) := by decide +kernel
theorem dX10_flows_63 : decode cX10_flows 63 = .ok (.iload_n 3, 1) := by decide +kernel
theorem dX10_flows_64 : decode cX10_flows 64 = .ok (.invokevirtual 108, 3) := by decide +kernel
theorem dX10_flows_67 : decode cX10_flows 67 = .ok (.ldc 98, 2) := by decide +kernel
theorem dX10_flows_69 : decode cX10_flows 69 = .ok (.if_icmp .ge 39, 3) := by decide +kernel
theorem dX10_flows_72 : decode cX10_flows 72 = .ok (.aload_n 0, 1) := by decide +kernel
theorem dX10_flows_73 : decode cX10_flows 73 = .ok (.getfield 49, 3) := by decide +kernel
theorem dX10_flows_76 : decode cX10_flows 76 = .ok (.iload_n 3, 1) := by decide +kernel
theorem dX10_flows_77 : decode cX10_flows 77 = .ok (.dup2, 1) := by decide +kernel
theorem dX10_flows_78 : decode cX10_flows 78 = .ok (.iaload, 1) := by decide +kernel
theorem dX10_flows_79 : decode cX10_flows 79 = .ok (.iconst 1, 1) := by decide +kernel
theorem dX10_flows_80 : decode cX10_flows 80 = .ok (.isub, 1) := by decide +kernel
theorem dX10_flows_81 : decode cX10_flows 81 = .ok (.iastore, 1) := by decide +kernel
theorem dX10_flows_82 : decode cX10_flows 82 = .ok (.iload_n 2, 1) := by decide +kernel
theorem dX10_flows_83 : decode cX10_flows 83 = .ok (.aload_n 0, 1) := by decide +kernel
theorem dX10_flows_84 : decode cX10_flows 84 = .ok (.iload_n 1, 1) := by decide +kernel
theorem dX10_flows_85 : decode cX10_flows 85 = .ok (.iload_n 3, 1) := by decide +kernel
theorem dX10_flows_86 : decode cX10_flows 86 = .ok (.invokevirtual 108, 3) := by decide +kernel
theorem dX10_flows_89 : decode cX10_flows 89 = .ok (.aload_n 0, 1) := by decide +kernel
theorem dX10_flows_90 : decode cX10_flows 90 = .ok (.invokevirtual 255, 3) := by decide +kernel
theorem dX10_flows_93 : decode cX10_flows 93 = .ok (.iadd, 1) := by decide +kernel
theorem dX10_flows_94 : decode cX10_flows 94 = .ok (.invokestatic 102, 3) := by decide +kernel
theorem dX10_flows_97 : decode cX10_flows 97 = .ok (.istore_n 2, 1) := by decide +kernel
theorem dX10_flows_98 : decode cX10_flows 98 = .ok (.aload_n 0, 1) := by decide +kernel
theorem dX10_flows_99 : decode cX10_flows 99 = .ok (.getfield 49, 3) := by decide +kernel
theorem dX10_flows_102 : decode cX10_flows 102 = .ok (.iload_n 3, 1) := by decide +kernel
theorem dX10_flows_103 : decode cX10_flows 103 = .ok (.dup2, 1) := by decide +kernel
theorem dX10_flows_104 : decode cX10_flows 104 = .ok (.iaload, 1) := by decide +kernel
theorem dX10_flows_105 : decode cX10_flows 105 = .ok (.iconst 1, 1) := by decide +kernel
theorem dX10_flows_106 : decode cX10_flows 106 = .ok (.iadd, 1) := by decide +kernel
theorem dX10_flows_107 : decode cX10_flows 107 = .ok (.iastore, 1) := by decide +kernel
theorem dX10_flows_108 : decode cX10_flows 108 = .ok (.iinc 3 1, 3) := by decide +kernel
theorem dX10_flows_111 : decode cX10_flows 111 = .ok (.goto (-65), 3) := by decide +kernel
theorem dX10_flows_114 : decode cX10_flows 114 = .ok (.aload_n 0, 1) := by decide +kernel
theorem dX10_flows_115 : decode cX10_flows 115 = .ok (.getfield 49, 3) := by decide +kernel
theorem dX10_flows_118 : decode cX10_flows 118 = .ok (.iload_n 1, 1) := by decide +kernel
theorem dX10_flows_119 : decode cX10_flows 119 = .ok (.dup2, 1) := by decide +kernel
theorem dX10_flows_120 : decode cX10_flows 120 = .ok (.iaload, 1) := by decide +kernel
theorem dX10_flows_121 : decode cX10_flows 121 = .ok (.iconst 1, 1) := by decide +kernel
theorem dX10_flows_122 : decode cX10_flows 122 = .ok (.isub, 1) := by decide +kernel
theorem dX10_flows_123 : decode cX10_flows 123 = .ok (.iastore, 1) := by decide +kernel
theorem dX10_flows_124 : decode cX10_flows 124 = .ok (.iload_n 2, 1) := by decide +kernel
theorem dX10_flows_125 : decode cX10_flows 125 = .ok (.ireturn, 1) := by decide +kernel
theorem dX10_flow_0 : decode cX10_flow 0 = .ok (.aload_n 0, 1) := by decide +kernel
theorem dX10_flow_1 : decode cX10_flow 1 = .ok (.aload_n 0, 1) := by decide +kernel
theorem dX10_flow_2 : decode cX10_flow 2 = .ok (.getfield 9, 3) := by decide +kernel
theorem dX10_flow_5 : decode cX10_flow 5 = .ok (.invokevirtual 185, 3) := by decide +kernel
theorem dX10_flow_8 : decode cX10_flow 8 = .ok (.iconst 0, 1) := by decide +kernel
theorem dX10_flow_9 : decode cX10_flow 9 = .ok (.istore_n 1, 1) := by decide +kernel
theorem dX10_flow_10 : decode cX10_flow 10 = .ok (.iload_n 1, 1) := by decide +kernel
theorem dX10_flow_11 : decode cX10_flow 11 = .ok (.bipush 6, 2) := by decide +kernel
theorem dX10_flow_13 : decode cX10_flow 13 = .ok (.if_icmp .ge 23, 3) := by decide +kernel
theorem dX10_flow_16 : decode cX10_flow 16 = .ok (.aload_n 0, 1) := by decide +kernel
theorem dX10_flow_17 : decode cX10_flow 17 = .ok (.getfield 49, 3) := by decide +kernel
theorem dX10_flow_20 : decode cX10_flow 20 = .ok (.iload_n 1, 1) := by decide +kernel
theorem dX10_flow_21 : decode cX10_flow 21 = .ok (.aload_n 0, 1) := by decide +kernel
theorem dX10_flow_22 : decode cX10_flow 22 = .ok (.getfield 9, 3) := by decide +kernel
theorem dX10_flow_25 : decode cX10_flow 25 = .ok (.iload_n 1, 1) := by decide +kernel
theorem dX10_flow_26 : decode cX10_flow 26 = .ok (.invokestatic 252, 3) := by decide +kernel
theorem dX10_flow_29 : decode cX10_flow 29 = .ok (.iastore, 1) := by decide +kernel
theorem dX10_flow_30 : decode cX10_flow 30 = .ok (.iinc 1 1, 3) := by decide +kernel
theorem dX10_flow_33 : decode cX10_flow 33 = .ok (.goto (-23), 3) := by decide +kernel
theorem dX10_flow_36 : decode cX10_flow 36 = .ok (.aload_n 0, 1) := by decide +kernel
theorem dX10_flow_37 : decode cX10_flow 37 = .ok (.invokevirtual 255, 3) := by decide +kernel
theorem dX10_flow_40 : decode cX10_flow 40 = .ok (.istore_n 1, 1) := by decide +kernel
theorem dX10_flow_41 : decode cX10_flow 41 = .ok (.iload_n 1, 1) := by decide +kernel
theorem dX10_flow_42 : decode cX10_flow 42 = .ok (.ldc 98, 2) := by decide +kernel
theorem dX10_flow_44 : decode cX10_flow 44 = .ok (.if_icmp .ge 7, 3) := by decide +kernel
theorem dX10_flow_47 : decode cX10_flow 47 = .ok (.iload_n 1, 1) := by decide +kernel
theorem dX10_flow_48 : decode cX10_flow 48 = .ok (.goto 5, 3) := by decide +kernel
theorem dX10_flow_51 : decode cX10_flow 51 = .ok (.bipush (-9), 2) := by decide +kernel
theorem dX10_flow_53 : decode cX10_flow 53 = .ok (.ireturn, 1) := by decide +kernel
theorem dX10_loose_0 : decode cX10_loose 0 = .ok (.iload_n 1, 1) := by decide +kernel
theorem dX10_loose_1 : decode cX10_loose 1 = .ok (.i2l, 1) := by decide +kernel
theorem dX10_loose_2 : decode cX10_loose 2 = .ok (.lconst 0, 1) := by decide +kernel
theorem dX10_loose_3 : decode cX10_loose 3 = .ok (.lconst 1, 1) := by decide +kernel
theorem dX10_loose_4 : decode cX10_loose 4 = .ok (.invokestatic 77, 3) := by decide +kernel
theorem dX10_loose_7 : decode cX10_loose 7 = .ok (.ifCond .ne 10, 3) := by decide +kernel
theorem dX10_loose_10 : decode cX10_loose 10 = .ok (.aload_n 0, 1) := by decide +kernel
theorem dX10_loose_11 : decode cX10_loose 11 = .ok (.bipush (-2), 2) := by decide +kernel
theorem dX10_loose_13 : decode cX10_loose 13 = .ok (.invokevirtual 66, 3) := by decide +kernel
theorem dX10_loose_16 : decode cX10_loose 16 = .ok (.ireturn, 1) := by decide +kernel
theorem dX10_loose_17 : decode cX10_loose 17 = .ok (.bipush (-9), 2) := by decide +kernel
theorem dX10_loose_19 : decode cX10_loose 19 = .ok (.istore_n 2, 1) := by decide +kernel
theorem dX10_loose_20 : decode cX10_loose 20 = .ok (.bipush (-9), 2) := by decide +kernel
theorem dX10_loose_22 : decode cX10_loose 22 = .ok (.istore_n 3, 1) := by decide +kernel
theorem dX10_loose_23 : decode cX10_loose 23 = .ok (.iconst 0, 1) := by decide +kernel
theorem dX10_loose_24 : decode cX10_loose 24 = .ok (.istore 4, 2) := by decide +kernel
theorem dX10_loose_26 : decode cX10_loose 26 = .ok (.iload 4, 2) := by decide +kernel
theorem dX10_loose_28 : decode cX10_loose 28 = .ok (.bipush 6, 2) := by decide +kernel
theorem dX10_loose_30 : decode cX10_loose 30 = .ok (.if_icmp .ge 49, 3) := by decide +kernel
theorem dX10_loose_33 : decode cX10_loose 33 = .ok (.aload_n 0, 1) := by decide +kernel
theorem dX10_loose_34 : decode cX10_loose 34 = .ok (.aload_n 0, 1) := by decide +kernel
theorem dX10_loose_35 : decode cX10_loose 35 = .ok (.getfield 9, 3) := by decide +kernel
theorem dX10_loose_38 : decode cX10_loose 38 = .ok (.aload_n 0, 1) := by decide +kernel
theorem dX10_loose_39 : decode cX10_loose 39 = .ok (.getfield 9, 3) := by decide +kernel
theorem dX10_loose_42 : decode cX10_loose 42 = .ok (.invokestatic 123, 3) := by decide +kernel
theorem dX10_loose_45 : decode cX10_loose 45 = .ok (.iload 4, 2) := by decide +kernel
theorem dX10_loose_47 : decode cX10_loose 47 = .ok (.invokevirtual 127, 3) := by decide +kernel
theorem dX10_loose_50 : decode cX10_loose 50 = .ok (.istore 5, 2) := by decide +kernel
theorem dX10_loose_52 : decode cX10_loose 52 = .ok (.iload 5, 2) := by decide +kernel
theorem dX10_loose_54 : decode cX10_loose 54 = .ok (.ifCond .lt 19, 3) := by decide +kernel
theorem dX10_loose_57 : decode cX10_loose 57 = .ok (.iload_n 2, 1) := by decide +kernel
theorem dX10_loose_58 : decode cX10_loose 58 = .ok (.ifCond .lt 9, 3) := by decide +kernel
theorem dX10_loose_61 : decode cX10_loose 61 = .ok (.iload 5, 2) := by decide +kernel
theorem dX10_loose_63 : decode cX10_loose 63 = .ok (.iload_n 2, 1) := by decide +kernel
theorem dX10_loose_64 : decode cX10_loose 64 = .ok (.if_icmp .ge 9, 3) := by decide +kernel
theorem dX10_loose_67 : decode cX10_loose 67 = .ok (.iload 5, 2) := by decide +kernel
theorem dX10_loose_69 : decode cX10_loose 69 = .ok (.istore_n 2, 1) := by decide +kernel
theorem dX10_loose_70 : decode cX10_loose 70 = .ok (.iload 4, 2) := by decide +kernel
theorem dX10_loose_72 : decode cX10_loose 72 = .ok (.istore_n 3, 1) := by decide +kernel
theorem dX10_loose_73 : decode cX10_loose 73 = .ok (.iinc 4 1, 3) := by decide +kernel
theorem dX10_loose_76 : decode cX10_loose 76 = .ok (.goto (-50), 3) := by decide +kernel
theorem dX10_loose_79 : decode cX10_loose 79 = .ok (.iload_n 1, 1) := by decide +kernel
theorem dX10_loose_80 : decode cX10_loose 80 = .ok (.ifCond .ne 7, 3) := by decide +kernel
theorem dX10_loose_83 : decode cX10_loose 83 = .ok (.iload_n 2, 1) := by decide +kernel
theorem dX10_loose_84 : decode cX10_loose 84 = .ok (.goto 4, 3) := by decide +kernel
theorem dX10_loose_87 : decode cX10_loose 87 = .ok (.iload_n 3, 1) := by decide +kernel
theorem dX10_loose_88 : decode cX10_loose 88 = .ok (.ireturn, 1) := by decide +kernel
theorem dX10_withoutOf_0 : decode cX10_withoutOf 0 = .ok (.aload_n 0, 1) := by decide +kernel
theorem dX10_withoutOf_1 : decode cX10_withoutOf 1 = .ok (.invokevirtual 169, 3) := by decide +kernel
theorem dX10_withoutOf_4 : decode cX10_withoutOf 4 = .ok (.astore_n 2, 1) := by decide +kernel
theorem dX10_withoutOf_5 : decode cX10_withoutOf 5 = .ok (.aload_n 2, 1) := by decide +kernel
theorem dX10_withoutOf_6 : decode cX10_withoutOf 6 = .ok (.bipush 40, 2) := by decide +kernel
theorem dX10_withoutOf_8 : decode cX10_withoutOf 8 = .ok (.iload_n 1, 1) := by decide +kernel
theorem dX10_withoutOf_9 : decode cX10_withoutOf 9 = .ok (.iadd, 1) := by decide +kernel
theorem dX10_withoutOf_10 : decode cX10_withoutOf 10 = .ok (.iconst 0, 1) := by decide +kernel
theorem dX10_withoutOf_11 : decode cX10_withoutOf 11 = .ok (.iastore, 1) := by decide +kernel
theorem dX10_withoutOf_12 : decode cX10_withoutOf 12 = .ok (.aload_n 0, 1) := by decide +kernel
theorem dX10_withoutOf_13 : decode cX10_withoutOf 13 = .ok (.aload_n 2, 1) := by decide +kernel
theorem dX10_withoutOf_14 : decode cX10_withoutOf 14 = .ok (.invokevirtual 131, 3) := by decide +kernel
theorem dX10_withoutOf_17 : decode cX10_withoutOf 17 = .ok (.ireturn, 1) := by decide +kernel
theorem dX10_without_0 : decode cX10_without 0 = .ok (.aload_n 0, 1) := by decide +kernel
theorem dX10_without_1 : decode cX10_without 1 = .ok (.getfield 9, 3) := by decide +kernel
theorem dX10_without_4 : decode cX10_without 4 = .ok (.iload_n 1, 1) := by decide +kernel
theorem dX10_without_5 : decode cX10_without 5 = .ok (.invokestatic 163, 3) := by decide +kernel
theorem dX10_without_8 : decode cX10_without 8 = .ok (.ifCond .eq 11, 3) := by decide +kernel
theorem dX10_without_11 : decode cX10_without 11 = .ok (.aload_n 0, 1) := by decide +kernel
theorem dX10_without_12 : decode cX10_without 12 = .ok (.iload_n 1, 1) := by decide +kernel
theorem dX10_without_13 : decode cX10_without 13 = .ok (.invokevirtual 259, 3) := by decide +kernel
theorem dX10_without_16 : decode cX10_without 16 = .ok (.goto 8, 3) := by decide +kernel
theorem dX10_without_19 : decode cX10_without 19 = .ok (.aload_n 0, 1) := by decide +kernel
theorem dX10_without_20 : decode cX10_without 20 = .ok (.iconst (-1), 1) := by decide +kernel
theorem dX10_without_21 : decode cX10_without 21 = .ok (.invokevirtual 66, 3) := by decide +kernel
theorem dX10_without_24 : decode cX10_without 24 = .ok (.ireturn, 1) := by decide +kernel
theorem dX10_turned_0 : decode cX10_turned 0 = .ok (.aload_n 0, 1) := by decide +kernel
theorem dX10_turned_1 : decode cX10_turned 1 = .ok (.getfield 9, 3) := by decide +kernel
theorem dX10_turned_4 : decode cX10_turned 4 = .ok (.iload_n 1, 1) := by decide +kernel
theorem dX10_turned_5 : decode cX10_turned 5 = .ok (.invokestatic 163, 3) := by decide +kernel
theorem dX10_turned_8 : decode cX10_turned 8 = .ok (.ifCond .ne 9, 3) := by decide +kernel
theorem dX10_turned_11 : decode cX10_turned 11 = .ok (.aload_n 0, 1) := by decide +kernel
theorem dX10_turned_12 : decode cX10_turned 12 = .ok (.iconst (-1), 1) := by decide +kernel
theorem dX10_turned_13 : decode cX10_turned 13 = .ok (.invokevirtual 66, 3) := by decide +kernel
theorem dX10_turned_16 : decode cX10_turned 16 = .ok (.ireturn, 1) := by decide +kernel
theorem dX10_turned_17 : decode cX10_turned 17 = .ok (.aload_n 0, 1) := by decide +kernel
theorem dX10_turned_18 : decode cX10_turned 18 = .ok (.invokevirtual 169, 3) := by decide +kernel
theorem dX10_turned_21 : decode cX10_turned 21 = .ok (.astore_n 2, 1) := by decide +kernel
theorem dX10_turned_22 : decode cX10_turned 22 = .ok (.aload_n 2, 1) := by decide +kernel
theorem dX10_turned_23 : decode cX10_turned 23 = .ok (.iconst 0, 1) := by decide +kernel
theorem dX10_turned_24 : decode cX10_turned 24 = .ok (.iload_n 1, 1) := by decide +kernel
theorem dX10_turned_25 : decode cX10_turned 25 = .ok (.iadd, 1) := by decide +kernel
theorem dX10_turned_26 : decode cX10_turned 26 = .ok (.aload_n 0, 1) := by decide +kernel
theorem dX10_turned_27 : decode cX10_turned 27 = .ok (.getfield 9, 3) := by decide +kernel
theorem dX10_turned_30 : decode cX10_turned 30 = .ok (.bipush 8, 2) := by decide +kernel
theorem dX10_turned_32 : decode cX10_turned 32 = .ok (.iload_n 1, 1) := by decide +kernel
theorem dX10_turned_33 : decode cX10_turned 33 = .ok (.iadd, 1) := by decide +kernel
theorem dX10_turned_34 : decode cX10_turned 34 = .ok (.iaload, 1) := by decide +kernel
theorem dX10_turned_35 : decode cX10_turned 35 = .ok (.iastore, 1) := by decide +kernel
theorem dX10_turned_36 : decode cX10_turned 36 = .ok (.aload_n 2, 1) := by decide +kernel
theorem dX10_turned_37 : decode cX10_turned 37 = .ok (.bipush 8, 2) := by decide +kernel
theorem dX10_turned_39 : decode cX10_turned 39 = .ok (.iload_n 1, 1) := by decide +kernel
theorem dX10_turned_40 : decode cX10_turned 40 = .ok (.iadd, 1) := by decide +kernel
theorem dX10_turned_41 : decode cX10_turned 41 = .ok (.aload_n 0, 1) := by decide +kernel
theorem dX10_turned_42 : decode cX10_turned 42 = .ok (.getfield 9, 3) := by decide +kernel
theorem dX10_turned_45 : decode cX10_turned 45 = .ok (.iconst 0, 1) := by decide +kernel
theorem dX10_turned_46 : decode cX10_turned 46 = .ok (.iload_n 1, 1) := by decide +kernel
theorem dX10_turned_47 : decode cX10_turned 47 = .ok (.iadd, 1) := by decide +kernel
theorem dX10_turned_48 : decode cX10_turned 48 = .ok (.iaload, 1) := by decide +kernel
theorem dX10_turned_49 : decode cX10_turned 49 = .ok (.iastore, 1) := by decide +kernel
theorem dX10_turned_50 : decode cX10_turned 50 = .ok (.aload_n 0, 1) := by decide +kernel
theorem dX10_turned_51 : decode cX10_turned 51 = .ok (.aload_n 2, 1) := by decide +kernel
theorem dX10_turned_52 : decode cX10_turned 52 = .ok (.invokevirtual 131, 3) := by decide +kernel
theorem dX10_turned_55 : decode cX10_turned 55 = .ok (.ireturn, 1) := by decide +kernel
theorem dX10_worst_0 : decode cX10_worst 0 = .ok (.bipush (-9), 2) := by decide +kernel
theorem dX10_worst_2 : decode cX10_worst 2 = .ok (.istore_n 1, 1) := by decide +kernel
theorem dX10_worst_3 : decode cX10_worst 3 = .ok (.bipush (-9), 2) := by decide +kernel
theorem dX10_worst_5 : decode cX10_worst 5 = .ok (.istore_n 2, 1) := by decide +kernel
theorem dX10_worst_6 : decode cX10_worst 6 = .ok (.iconst 0, 1) := by decide +kernel
theorem dX10_worst_7 : decode cX10_worst 7 = .ok (.istore_n 3, 1) := by decide +kernel
theorem dX10_worst_8 : decode cX10_worst 8 = .ok (.iload_n 3, 1) := by decide +kernel
theorem dX10_worst_9 : decode cX10_worst 9 = .ok (.aload_n 0, 1) := by decide +kernel
theorem dX10_worst_10 : decode cX10_worst 10 = .ok (.getfield 9, 3) := by decide +kernel
theorem dX10_worst_13 : decode cX10_worst 13 = .ok (.bipush 49, 2) := by decide +kernel
theorem dX10_worst_15 : decode cX10_worst 15 = .ok (.iaload, 1) := by decide +kernel
theorem dX10_worst_16 : decode cX10_worst 16 = .ok (.if_icmp .ge 61, 3) := by decide +kernel
theorem dX10_worst_19 : decode cX10_worst 19 = .ok (.aload_n 0, 1) := by decide +kernel
theorem dX10_worst_20 : decode cX10_worst 20 = .ok (.getfield 9, 3) := by decide +kernel
theorem dX10_worst_23 : decode cX10_worst 23 = .ok (.iload_n 3, 1) := by decide +kernel
theorem dX10_worst_24 : decode cX10_worst 24 = .ok (.invokestatic 88, 3) := by decide +kernel
theorem dX10_worst_27 : decode cX10_worst 27 = .ok (.ifCond .eq 44, 3) := by decide +kernel
theorem dX10_worst_30 : decode cX10_worst 30 = .ok (.aload_n 0, 1) := by decide +kernel
theorem dX10_worst_31 : decode cX10_worst 31 = .ok (.iload_n 3, 1) := by decide +kernel
theorem dX10_worst_32 : decode cX10_worst 32 = .ok (.invokevirtual 259, 3) := by decide +kernel
theorem dX10_worst_35 : decode cX10_worst 35 = .ok (.istore 4, 2) := by decide +kernel
theorem dX10_worst_37 : decode cX10_worst 37 = .ok (.iload 4, 2) := by decide +kernel
theorem dX10_worst_39 : decode cX10_worst 39 = .ok (.ifCond .ge 9, 3) := by decide +kernel
theorem dX10_worst_42 : decode cX10_worst 42 = .ok (.sipush 10000, 3) := by decide +kernel
theorem dX10_worst_45 : decode cX10_worst 45 = .ok (.goto 5, 3) := by decide +kernel
theorem dX10_worst_48 : decode cX10_worst 48 = .ok (.iload 4, 2) := by decide +kernel
theorem dX10_worst_50 : decode cX10_worst 50 = .ok (.istore 5, 2) := by decide +kernel
theorem dX10_worst_52 : decode cX10_worst 52 = .ok (.iload 5, 2) := by decide +kernel
theorem dX10_worst_54 : decode cX10_worst 54 = .ok (.iload_n 2, 1) := by decide +kernel
theorem dX10_worst_55 : decode cX10_worst 55 = .ok (.if_icmp .le 7, 3) := by decide +kernel
theorem dX10_worst_58 : decode cX10_worst 58 = .ok (.iload_n 3, 1) := by decide +kernel
theorem dX10_worst_59 : decode cX10_worst 59 = .ok (.goto 4, 3) := by decide +kernel
theorem dX10_worst_62 : decode cX10_worst 62 = .ok (.iload_n 1, 1) := by decide +kernel
theorem dX10_worst_63 : decode cX10_worst 63 = .ok (.istore_n 1, 1) := by decide +kernel
theorem dX10_worst_64 : decode cX10_worst 64 = .ok (.iload_n 2, 1) := by decide +kernel
theorem dX10_worst_65 : decode cX10_worst 65 = .ok (.iload 5, 2) := by decide +kernel
theorem dX10_worst_67 : decode cX10_worst 67 = .ok (.invokestatic 262, 3) := by decide +kernel
theorem dX10_worst_70 : decode cX10_worst 70 = .ok (.istore_n 2, 1) := by decide +kernel
theorem dX10_worst_71 : decode cX10_worst 71 = .ok (.iinc 3 1, 3) := by decide +kernel
theorem dX10_worst_74 : decode cX10_worst 74 = .ok (.goto (-66), 3) := by decide +kernel
theorem dX10_worst_77 : decode cX10_worst 77 = .ok (.iload_n 1, 1) := by decide +kernel
theorem dX10_worst_78 : decode cX10_worst 78 = .ok (.ireturn, 1) := by decide +kernel
theorem dX10_deals_0 : decode cX10_deals 0 = .ok (.iload_n 3, 1) := by decide +kernel
theorem dX10_deals_1 : decode cX10_deals 1 = .ok (.aload_n 1, 1) := by decide +kernel
theorem dX10_deals_2 : decode cX10_deals 2 = .ok (.bipush 49, 2) := by decide +kernel
theorem dX10_deals_4 : decode cX10_deals 4 = .ok (.iaload, 1) := by decide +kernel
theorem dX10_deals_5 : decode cX10_deals 5 = .ok (.if_icmp .ge 90, 3) := by decide +kernel
theorem dX10_deals_8 : decode cX10_deals 8 = .ok (.aload_n 0, 1) := by decide +kernel
theorem dX10_deals_9 : decode cX10_deals 9 = .ok (.getfield 58, 3) := by decide +kernel
theorem dX10_deals_12 : decode cX10_deals 12 = .ok (.iload_n 3, 1) := by decide +kernel
theorem dX10_deals_13 : decode cX10_deals 13 = .ok (.bipush (-9), 2) := by decide +kernel
theorem dX10_deals_15 : decode cX10_deals 15 = .ok (.iastore, 1) := by decide +kernel
theorem dX10_deals_16 : decode cX10_deals 16 = .ok (.aload_n 1, 1) := by decide +kernel
theorem dX10_deals_17 : decode cX10_deals 17 = .ok (.iload_n 3, 1) := by decide +kernel
theorem dX10_deals_18 : decode cX10_deals 18 = .ok (.invokestatic 88, 3) := by decide +kernel
theorem dX10_deals_21 : decode cX10_deals 21 = .ok (.ifCond .ne 13, 3) := by decide +kernel
theorem dX10_deals_24 : decode cX10_deals 24 = .ok (.aload_n 0, 1) := by decide +kernel
theorem dX10_deals_25 : decode cX10_deals 25 = .ok (.aload_n 1, 1) := by decide +kernel
theorem dX10_deals_26 : decode cX10_deals 26 = .ok (.iload_n 2, 1) := by decide +kernel
theorem dX10_deals_27 : decode cX10_deals 27 = .ok (.iload_n 3, 1) := by decide +kernel
theorem dX10_deals_28 : decode cX10_deals 28 = .ok (.iconst 1, 1) := by decide +kernel
theorem dX10_deals_29 : decode cX10_deals 29 = .ok (.iadd, 1) := by decide +kernel
theorem dX10_deals_30 : decode cX10_deals 30 = .ok (.invokevirtual 265, 3) := by decide +kernel
theorem dX10_deals_33 : decode cX10_deals 33 = .ok (.return_, 1) := by decide +kernel
theorem dX10_deals_34 : decode cX10_deals 34 = .ok (.iconst 0, 1) := by decide +kernel
theorem dX10_deals_35 : decode cX10_deals 35 = .ok (.istore 4, 2) := by decide +kernel
theorem dX10_deals_37 : decode cX10_deals 37 = .ok (.iload 4, 2) := by decide +kernel
theorem dX10_deals_39 : decode cX10_deals 39 = .ok (.iload_n 2, 1) := by decide +kernel
theorem dX10_deals_40 : decode cX10_deals 40 = .ok (.if_icmp .ge 54, 3) := by decide +kernel
theorem dX10_deals_43 : decode cX10_deals 43 = .ok (.aload_n 0, 1) := by decide +kernel
theorem dX10_deals_44 : decode cX10_deals 44 = .ok (.getfield 58, 3) := by decide +kernel
theorem dX10_deals_47 : decode cX10_deals 47 = .ok (.iload_n 3, 1) := by decide +kernel
theorem dX10_deals_48 : decode cX10_deals 48 = .ok (.iload 4, 2) := by decide +kernel
theorem dX10_deals_50 : decode cX10_deals 50 = .ok (.iastore, 1) := by decide +kernel
theorem dX10_deals_51 : decode cX10_deals 51 = .ok (.aload_n 0, 1) := by decide +kernel
theorem dX10_deals_52 : decode cX10_deals 52 = .ok (.getfield 55, 3) := by decide +kernel
theorem dX10_deals_55 : decode cX10_deals 55 = .ok (.iload 4, 2) := by decide +kernel
theorem dX10_deals_57 : decode cX10_deals 57 = .ok (.dup2, 1) := by decide +kernel
theorem dX10_deals_58 : decode cX10_deals 58 = .ok (.iaload, 1) := by decide +kernel
theorem dX10_deals_59 : decode cX10_deals 59 = .ok (.iconst 1, 1) := by decide +kernel
theorem dX10_deals_60 : decode cX10_deals 60 = .ok (.iload_n 3, 1) := by decide +kernel
theorem dX10_deals_61 : decode cX10_deals 61 = .ok (.ishl, 1) := by decide +kernel
theorem dX10_deals_62 : decode cX10_deals 62 = .ok (.ior, 1) := by decide +kernel
theorem dX10_deals_63 : decode cX10_deals 63 = .ok (.iastore, 1) := by decide +kernel
theorem dX10_deals_64 : decode cX10_deals 64 = .ok (.aload_n 0, 1) := by decide +kernel
theorem dX10_deals_65 : decode cX10_deals 65 = .ok (.aload_n 1, 1) := by decide +kernel
theorem dX10_deals_66 : decode cX10_deals 66 = .ok (.iload_n 2, 1) := by decide +kernel
theorem dX10_deals_67 : decode cX10_deals 67 = .ok (.iload_n 3, 1) := by decide +kernel
theorem dX10_deals_68 : decode cX10_deals 68 = .ok (.iconst 1, 1) := by decide +kernel
theorem dX10_deals_69 : decode cX10_deals 69 = .ok (.iadd, 1) := by decide +kernel
theorem dX10_deals_70 : decode cX10_deals 70 = .ok (.invokevirtual 265, 3) := by decide +kernel
theorem dX10_deals_73 : decode cX10_deals 73 = .ok (.aload_n 0, 1) := by decide +kernel
theorem dX10_deals_74 : decode cX10_deals 74 = .ok (.getfield 55, 3) := by decide +kernel
theorem dX10_deals_77 : decode cX10_deals 77 = .ok (.iload 4, 2) := by decide +kernel
theorem dX10_deals_79 : decode cX10_deals 79 = .ok (.dup2, 1) := by decide +kernel
theorem dX10_deals_80 : decode cX10_deals 80 = .ok (.iaload, 1) := by decide +kernel
theorem dX10_deals_81 : decode cX10_deals 81 = .ok (.iconst 1, 1) := by decide +kernel
theorem dX10_deals_82 : decode cX10_deals 82 = .ok (.iload_n 3, 1) := by decide +kernel
theorem dX10_deals_83 : decode cX10_deals 83 = .ok (.ishl, 1) := by decide +kernel
theorem dX10_deals_84 : decode cX10_deals 84 = .ok (.iconst (-1), 1) := by decide +kernel
theorem dX10_deals_85 : decode cX10_deals 85 = .ok (.ixor, 1) := by decide +kernel
theorem dX10_deals_86 : decode cX10_deals 86 = .ok (.iand, 1) := by decide +kernel
theorem dX10_deals_87 : decode cX10_deals 87 = .ok (.iastore, 1) := by decide +kernel
theorem dX10_deals_88 : decode cX10_deals 88 = .ok (.iinc 4 1, 3) := by decide +kernel
theorem dX10_deals_91 : decode cX10_deals 91 = .ok (.goto (-54), 3) := by decide +kernel
theorem dX10_deals_94 : decode cX10_deals 94 = .ok (.return_, 1) := by decide +kernel
theorem dX10_deals_95 : decode cX10_deals 95 = .ok (.iconst 0, 1) := by decide +kernel
theorem dX10_deals_96 : decode cX10_deals 96 = .ok (.istore 4, 2) := by decide +kernel
theorem dX10_deals_98 : decode cX10_deals 98 = .ok (.iconst 0, 1) := by decide +kernel
theorem dX10_deals_99 : decode cX10_deals 99 = .ok (.istore 5, 2) := by decide +kernel
theorem dX10_deals_101 : decode cX10_deals 101 = .ok (.iconst 0, 1) := by decide +kernel
theorem dX10_deals_102 : decode cX10_deals 102 = .ok (.istore 6, 2) := by decide +kernel
theorem dX10_deals_104 : decode cX10_deals 104 = .ok (.iload 6, 2) := by decide +kernel
theorem dX10_deals_106 : decode cX10_deals 106 = .ok (.iload_n 2, 1) := by decide +kernel
theorem dX10_deals_107 : decode cX10_deals 107 = .ok (.if_icmp .ge 45, 3) := by decide +kernel
theorem dX10_deals_110 : decode cX10_deals 110 = .ok (.aload_n 0, 1) := by decide +kernel
theorem dX10_deals_111 : decode cX10_deals 111 = .ok (.getfield 52, 3) := by decide +kernel
theorem dX10_deals_114 : decode cX10_deals 114 = .ok (.aload_n 0, 1) := by decide +kernel
theorem dX10_deals_115 : decode cX10_deals 115 = .ok (.getfield 55, 3) := by decide +kernel
theorem dX10_deals_118 : decode cX10_deals 118 = .ok (.iload 6, 2) := by decide +kernel
theorem dX10_deals_120 : decode cX10_deals 120 = .ok (.iaload, 1) := by decide +kernel
theorem dX10_deals_121 : decode cX10_deals 121 = .ok (.iaload, 1) := by decide +kernel
theorem dX10_deals_122 : decode cX10_deals 122 = .ok (.istore 7, 2) := by decide +kernel
theorem dX10_deals_124 : decode cX10_deals 124 = .ok (.iload 7, 2) := by decide +kernel
theorem dX10_deals_126 : decode cX10_deals 126 = .ok (.ifCond .ge 4, 3) := by decide +kernel
theorem dX10_deals_129 : decode cX10_deals 129 = .ok (.return_, 1) := by decide +kernel
theorem dX10_deals_130 : decode cX10_deals 130 = .ok (.iload 4, 2) := by decide +kernel
theorem dX10_deals_132 : decode cX10_deals 132 = .ok (.iload 7, 2) := by decide +kernel
theorem dX10_deals_134 : decode cX10_deals 134 = .ok (.invokestatic 262, 3) := by decide +kernel
theorem dX10_deals_137 : decode cX10_deals 137 = .ok (.istore 4, 2) := by decide +kernel
theorem dX10_deals_139 : decode cX10_deals 139 = .ok (.iload 5, 2) := by decide +kernel
theorem dX10_deals_141 : decode cX10_deals 141 = .ok (.iload 7, 2) := by decide +kernel
theorem dX10_deals_143 : decode cX10_deals 143 = .ok (.iadd, 1) := by decide +kernel
theorem dX10_deals_144 : decode cX10_deals 144 = .ok (.istore 5, 2) := by decide +kernel
theorem dX10_deals_146 : decode cX10_deals 146 = .ok (.iinc 6 1, 3) := by decide +kernel
theorem dX10_deals_149 : decode cX10_deals 149 = .ok (.goto (-45), 3) := by decide +kernel
theorem dX10_deals_152 : decode cX10_deals 152 = .ok (.aload_n 0, 1) := by decide +kernel
theorem dX10_deals_153 : decode cX10_deals 153 = .ok (.getfield 269, 3) := by decide +kernel
theorem dX10_deals_156 : decode cX10_deals 156 = .ok (.ifCond .lt 30, 3) := by decide +kernel
theorem dX10_deals_159 : decode cX10_deals 159 = .ok (.iload 4, 2) := by decide +kernel
theorem dX10_deals_161 : decode cX10_deals 161 = .ok (.aload_n 0, 1) := by decide +kernel
theorem dX10_deals_162 : decode cX10_deals 162 = .ok (.getfield 269, 3) := by decide +kernel
theorem dX10_deals_165 : decode cX10_deals 165 = .ok (.if_icmp .lt 21, 3) := by decide +kernel
theorem dX10_deals_168 : decode cX10_deals 168 = .ok (.iload 4, 2) := by decide +kernel
theorem dX10_deals_170 : decode cX10_deals 170 = .ok (.aload_n 0, 1) := by decide +kernel
theorem dX10_deals_171 : decode cX10_deals 171 = .ok (.getfield 269, 3) := by decide +kernel
theorem dX10_deals_174 : decode cX10_deals 174 = .ok (.if_icmp .ne 68, 3) := by decide +kernel
theorem dX10_deals_177 : decode cX10_deals 177 = .ok (.iload 5, 2) := by decide +kernel
theorem dX10_deals_179 : decode cX10_deals 179 = .ok (.aload_n 0, 1) := by decide +kernel
theorem dX10_deals_180 : decode cX10_deals 180 = .ok (.getfield 272, 3) := by decide +kernel
theorem dX10_deals_183 : decode cX10_deals 183 = .ok (.if_icmp .ge 59, 3) := by decide +kernel
theorem dX10_deals_186 : decode cX10_deals 186 = .ok (.aload_n 0, 1) := by decide +kernel
theorem dX10_deals_187 : decode cX10_deals 187 = .ok (.iload 4, 2) := by decide +kernel
theorem dX10_deals_189 : decode cX10_deals 189 = .ok (.putfield 269, 3) := by decide +kernel
theorem dX10_deals_192 : decode cX10_deals 192 = .ok (.aload_n 0, 1) := by decide +kernel
theorem dX10_deals_193 : decode cX10_deals 193 = .ok (.iload 5, 2) := by decide +kernel
theorem dX10_deals_195 : decode cX10_deals 195 = .ok (.putfield 272, 3) := by decide +kernel
theorem dX10_deals_198 : decode cX10_deals 198 = .ok (.iconst 0, 1) := by decide +kernel
theorem dX10_deals_199 : decode cX10_deals 199 = .ok (.istore 6, 2) := by decide +kernel
theorem dX10_deals_201 : decode cX10_deals 201 = .ok (.iload 6, 2) := by decide +kernel
theorem dX10_deals_203 : decode cX10_deals 203 = .ok (.bipush 8, 2) := by decide +kernel
theorem dX10_deals_205 : decode cX10_deals 205 = .ok (.if_icmp .ge 37, 3) := by decide +kernel
theorem dX10_deals_208 : decode cX10_deals 208 = .ok (.aload_n 0, 1) := by decide +kernel
theorem dX10_deals_209 : decode cX10_deals 209 = .ok (.getfield 61, 3) := by decide +kernel
theorem dX10_deals_212 : decode cX10_deals 212 = .ok (.iload 6, 2) := by decide +kernel
theorem dX10_deals_214 : decode cX10_deals 214 = .ok (.iload 6, 2) := by decide +kernel
theorem dX10_deals_216 : decode cX10_deals 216 = .ok (.aload_n 1, 1) := by decide +kernel
theorem dX10_deals_217 : decode cX10_deals 217 = .ok (.bipush 49, 2) := by decide +kernel
theorem dX10_deals_219 : decode cX10_deals 219 = .ok (.iaload, 1) := by decide +kernel
theorem dX10_deals_220 : decode cX10_deals 220 = .ok (.if_icmp .ge 13, 3) := by decide +kernel
theorem dX10_deals_223 : decode cX10_deals 223 = .ok (.aload_n 0, 1) := by decide +kernel
theorem dX10_deals_224 : decode cX10_deals 224 = .ok (.getfield 58, 3) := by decide +kernel
theorem dX10_deals_227 : decode cX10_deals 227 = .ok (.iload 6, 2) := by decide +kernel
theorem dX10_deals_229 : decode cX10_deals 229 = .ok (.iaload, 1) := by decide +kernel
theorem dX10_deals_230 : decode cX10_deals 230 = .ok (.goto 5, 3) := by decide +kernel
theorem dX10_deals_233 : decode cX10_deals 233 = .ok (.bipush (-9), 2) := by decide +kernel
theorem dX10_deals_235 : decode cX10_deals 235 = .ok (.iastore, 1) := by decide +kernel
theorem dX10_deals_236 : decode cX10_deals 236 = .ok (.iinc 6 1, 3) := by decide +kernel
theorem dX10_deals_239 : decode cX10_deals 239 = .ok (.goto (-38), 3) := by decide +kernel
theorem dX10_deals_242 : decode cX10_deals 242 = .ok (.return_, 1) := by decide +kernel
theorem dX10_shares_0 : decode cX10_shares 0 = .ok (.aload_n 1, 1) := by decide +kernel
theorem dX10_shares_1 : decode cX10_shares 1 = .ok (.invokestatic 123, 3) := by decide +kernel
theorem dX10_shares_4 : decode cX10_shares 4 = .ok (.istore_n 3, 1) := by decide +kernel
theorem dX10_shares_5 : decode cX10_shares 5 = .ok (.iconst 0, 1) := by decide +kernel
theorem dX10_shares_6 : decode cX10_shares 6 = .ok (.istore 4, 2) := by decide +kernel
theorem dX10_shares_8 : decode cX10_shares 8 = .ok (.iload 4, 2) := by decide +kernel
theorem dX10_shares_10 : decode cX10_shares 10 = .ok (.iload_n 3, 1) := by decide +kernel
theorem dX10_shares_11 : decode cX10_shares 11 = .ok (.if_icmp .gt 36, 3) := by decide +kernel
theorem dX10_shares_14 : decode cX10_shares 14 = .ok (.iload 4, 2) := by decide +kernel
theorem dX10_shares_16 : decode cX10_shares 16 = .ok (.iload_n 3, 1) := by decide +kernel
theorem dX10_shares_17 : decode cX10_shares 17 = .ok (.iconst (-1), 1) := by decide +kernel
theorem dX10_shares_18 : decode cX10_shares 18 = .ok (.ixor, 1) := by decide +kernel
theorem dX10_shares_19 : decode cX10_shares 19 = .ok (.iand, 1) := by decide +kernel
theorem dX10_shares_20 : decode cX10_shares 20 = .ok (.ifCond .ne 21, 3) := by decide +kernel
theorem dX10_shares_23 : decode cX10_shares 23 = .ok (.aload_n 0, 1) := by decide +kernel
theorem dX10_shares_24 : decode cX10_shares 24 = .ok (.getfield 52, 3) := by decide +kernel
theorem dX10_shares_27 : decode cX10_shares 27 = .ok (.iload 4, 2) := by decide +kernel
theorem dX10_shares_29 : decode cX10_shares 29 = .ok (.aload_n 0, 1) := by decide +kernel
theorem dX10_shares_30 : decode cX10_shares 30 = .ok (.aload_n 1, 1) := by decide +kernel
theorem dX10_shares_31 : decode cX10_shares 31 = .ok (.iload 4, 2) := by decide +kernel
theorem dX10_shares_33 : decode cX10_shares 33 = .ok (.aload_n 1, 1) := by decide +kernel
theorem dX10_shares_34 : decode cX10_shares 34 = .ok (.bipush 48, 2) := by decide +kernel
theorem dX10_shares_36 : decode cX10_shares 36 = .ok (.iaload, 1) := by decide +kernel
theorem dX10_shares_37 : decode cX10_shares 37 = .ok (.invokevirtual 127, 3) := by decide +kernel
theorem dX10_shares_40 : decode cX10_shares 40 = .ok (.iastore, 1) := by decide +kernel
theorem dX10_shares_41 : decode cX10_shares 41 = .ok (.iinc 4 1, 3) := by decide +kernel
theorem dX10_shares_44 : decode cX10_shares 44 = .ok (.goto (-36), 3) := by decide +kernel
theorem dX10_shares_47 : decode cX10_shares 47 = .ok (.aload_n 0, 1) := by decide +kernel
theorem dX10_shares_48 : decode cX10_shares 48 = .ok (.bipush (-9), 2) := by decide +kernel
theorem dX10_shares_50 : decode cX10_shares 50 = .ok (.putfield 269, 3) := by decide +kernel
theorem dX10_shares_53 : decode cX10_shares 53 = .ok (.aload_n 0, 1) := by decide +kernel
theorem dX10_shares_54 : decode cX10_shares 54 = .ok (.bipush (-9), 2) := by decide +kernel
theorem dX10_shares_56 : decode cX10_shares 56 = .ok (.putfield 272, 3) := by decide +kernel
theorem dX10_shares_59 : decode cX10_shares 59 = .ok (.iconst 0, 1) := by decide +kernel
theorem dX10_shares_60 : decode cX10_shares 60 = .ok (.istore 4, 2) := by decide +kernel
theorem dX10_shares_62 : decode cX10_shares 62 = .ok (.iload 4, 2) := by decide +kernel
theorem dX10_shares_64 : decode cX10_shares 64 = .ok (.bipush 8, 2) := by decide +kernel
theorem dX10_shares_66 : decode cX10_shares 66 = .ok (.if_icmp .ge 18, 3) := by decide +kernel
theorem dX10_shares_69 : decode cX10_shares 69 = .ok (.aload_n 0, 1) := by decide +kernel
theorem dX10_shares_70 : decode cX10_shares 70 = .ok (.getfield 61, 3) := by decide +kernel
theorem dX10_shares_73 : decode cX10_shares 73 = .ok (.iload 4, 2) := by decide +kernel
theorem dX10_shares_75 : decode cX10_shares 75 = .ok (.bipush (-9), 2) := by decide +kernel
theorem dX10_shares_77 : decode cX10_shares 77 = .ok (.iastore, 1) := by decide +kernel
theorem dX10_shares_78 : decode cX10_shares 78 = .ok (.iinc 4 1, 3) := by decide +kernel
theorem dX10_shares_81 : decode cX10_shares 81 = .ok (.goto (-19), 3) := by decide +kernel
theorem dX10_shares_84 : decode cX10_shares 84 = .ok (.aload_n 0, 1) := by decide +kernel
theorem dX10_shares_85 : decode cX10_shares 85 = .ok (.aload_n 1, 1) := by decide +kernel
theorem dX10_shares_86 : decode cX10_shares 86 = .ok (.iload_n 2, 1) := by decide +kernel
theorem dX10_shares_87 : decode cX10_shares 87 = .ok (.iconst 0, 1) := by decide +kernel
theorem dX10_shares_88 : decode cX10_shares 88 = .ok (.invokevirtual 265, 3) := by decide +kernel
theorem dX10_shares_91 : decode cX10_shares 91 = .ok (.return_, 1) := by decide +kernel
theorem dX10_shared_0 : decode cX10_shared 0 = .ok (.iload_n 1, 1) := by decide +kernel
theorem dX10_shared_1 : decode cX10_shared 1 = .ok (.i2l, 1) := by decide +kernel
theorem dX10_shared_2 : decode cX10_shared 2 = .ok (.lconst 1, 1) := by decide +kernel
theorem dX10_shared_3 : decode cX10_shared 3 = .ok (.ldc2_w 192, 3) := by decide +kernel
theorem dX10_shared_6 : decode cX10_shared 6 = .ok (.invokestatic 77, 3) := by decide +kernel
theorem dX10_shared_9 : decode cX10_shared 9 = .ok (.ifCond .ne 20, 3) := by decide +kernel
theorem dX10_shared_12 : decode cX10_shared 12 = .ok (.aload_n 0, 1) := by decide +kernel
theorem dX10_shared_13 : decode cX10_shared 13 = .ok (.iload_n 1, 1) := by decide +kernel
theorem dX10_shared_14 : decode cX10_shared 14 = .ok (.iconst 1, 1) := by decide +kernel
theorem dX10_shared_15 : decode cX10_shared 15 = .ok (.if_icmp .ge 8, 3) := by decide +kernel
theorem dX10_shared_18 : decode cX10_shared 18 = .ok (.bipush (-4), 2) := by decide +kernel
theorem dX10_shared_20 : decode cX10_shared 20 = .ok (.goto 5, 3) := by decide +kernel
theorem dX10_shared_23 : decode cX10_shared 23 = .ok (.bipush (-6), 2) := by decide +kernel
theorem dX10_shared_25 : decode cX10_shared 25 = .ok (.invokevirtual 66, 3) := by decide +kernel
theorem dX10_shared_28 : decode cX10_shared 28 = .ok (.ireturn, 1) := by decide +kernel
theorem dX10_shared_29 : decode cX10_shared 29 = .ok (.iload_n 2, 1) := by decide +kernel
theorem dX10_shared_30 : decode cX10_shared 30 = .ok (.i2l, 1) := by decide +kernel
theorem dX10_shared_31 : decode cX10_shared 31 = .ok (.lconst 0, 1) := by decide +kernel
theorem dX10_shared_32 : decode cX10_shared 32 = .ok (.ldc2_w 180, 3) := by decide +kernel
theorem dX10_shared_35 : decode cX10_shared 35 = .ok (.invokestatic 77, 3) := by decide +kernel
theorem dX10_shared_38 : decode cX10_shared 38 = .ok (.ifCond .ne 10, 3) := by decide +kernel
theorem dX10_shared_41 : decode cX10_shared 41 = .ok (.aload_n 0, 1) := by decide +kernel
theorem dX10_shared_42 : decode cX10_shared 42 = .ok (.bipush (-2), 2) := by decide +kernel
theorem dX10_shared_44 : decode cX10_shared 44 = .ok (.invokevirtual 66, 3) := by decide +kernel
theorem dX10_shared_47 : decode cX10_shared 47 = .ok (.ireturn, 1) := by decide +kernel
theorem dX10_shared_48 : decode cX10_shared 48 = .ok (.aload_n 0, 1) := by decide +kernel
theorem dX10_shared_49 : decode cX10_shared 49 = .ok (.aload_n 0, 1) := by decide +kernel
theorem dX10_shared_50 : decode cX10_shared 50 = .ok (.getfield 9, 3) := by decide +kernel
theorem dX10_shared_53 : decode cX10_shared 53 = .ok (.iload_n 1, 1) := by decide +kernel
theorem dX10_shared_54 : decode cX10_shared 54 = .ok (.invokevirtual 275, 3) := by decide +kernel
theorem dX10_shared_57 : decode cX10_shared 57 = .ok (.iload_n 2, 1) := by decide +kernel
theorem dX10_shared_58 : decode cX10_shared 58 = .ok (.iconst 2, 1) := by decide +kernel
theorem dX10_shared_59 : decode cX10_shared 59 = .ok (.if_icmp .lt 10, 3) := by decide +kernel
theorem dX10_shared_62 : decode cX10_shared 62 = .ok (.aload_n 0, 1) := by decide +kernel
theorem dX10_shared_63 : decode cX10_shared 63 = .ok (.getfield 269, 3) := by decide +kernel
theorem dX10_shared_66 : decode cX10_shared 66 = .ok (.ifCond .ge 20, 3) := by decide +kernel
theorem dX10_shared_69 : decode cX10_shared 69 = .ok (.iload_n 2, 1) := by decide +kernel
theorem dX10_shared_70 : decode cX10_shared 70 = .ok (.iconst 1, 1) := by decide +kernel
theorem dX10_shared_71 : decode cX10_shared 71 = .ok (.if_icmp .ne 10, 3) := by decide +kernel
theorem dX10_shared_74 : decode cX10_shared 74 = .ok (.aload_n 0, 1) := by decide +kernel
theorem dX10_shared_75 : decode cX10_shared 75 = .ok (.getfield 272, 3) := by decide +kernel
theorem dX10_shared_78 : decode cX10_shared 78 = .ok (.goto 7, 3) := by decide +kernel
theorem dX10_shared_81 : decode cX10_shared 81 = .ok (.aload_n 0, 1) := by decide +kernel
theorem dX10_shared_82 : decode cX10_shared 82 = .ok (.getfield 269, 3) := by decide +kernel
theorem dX10_shared_85 : decode cX10_shared 85 = .ok (.ireturn, 1) := by decide +kernel
theorem dX10_shared_86 : decode cX10_shared 86 = .ok (.iconst 0, 1) := by decide +kernel
theorem dX10_shared_87 : decode cX10_shared 87 = .ok (.istore_n 3, 1) := by decide +kernel
theorem dX10_shared_88 : decode cX10_shared 88 = .ok (.iconst 0, 1) := by decide +kernel
theorem dX10_shared_89 : decode cX10_shared 89 = .ok (.istore 4, 2) := by decide +kernel
theorem dX10_shared_91 : decode cX10_shared 91 = .ok (.iload 4, 2) := by decide +kernel
theorem dX10_shared_93 : decode cX10_shared 93 = .ok (.bipush 8, 2) := by decide +kernel
theorem dX10_shared_95 : decode cX10_shared 95 = .ok (.if_icmp .ge 35, 3) := by decide +kernel
theorem dX10_shared_98 : decode cX10_shared 98 = .ok (.iload_n 3, 1) := by decide +kernel
theorem dX10_shared_99 : decode cX10_shared 99 = .ok (.aload_n 0, 1) := by decide +kernel
theorem dX10_shared_100 : decode cX10_shared 100 = .ok (.getfield 61, 3) := by decide +kernel
theorem dX10_shared_103 : decode cX10_shared 103 = .ok (.iload 4, 2) := by decide +kernel
theorem dX10_shared_105 : decode cX10_shared 105 = .ok (.iaload, 1) := by decide +kernel
theorem dX10_shared_106 : decode cX10_shared 106 = .ok (.ifCond .lt 15, 3) := by decide +kernel
theorem dX10_shared_109 : decode cX10_shared 109 = .ok (.iconst 1, 1) := by decide +kernel
theorem dX10_shared_110 : decode cX10_shared 110 = .ok (.aload_n 0, 1) := by decide +kernel
theorem dX10_shared_111 : decode cX10_shared 111 = .ok (.getfield 61, 3) := by decide +kernel
theorem dX10_shared_114 : decode cX10_shared 114 = .ok (.iload 4, 2) := by decide +kernel
theorem dX10_shared_116 : decode cX10_shared 116 = .ok (.iaload, 1) := by decide +kernel
theorem dX10_shared_117 : decode cX10_shared 117 = .ok (.ishl, 1) := by decide +kernel
theorem dX10_shared_118 : decode cX10_shared 118 = .ok (.goto 4, 3) := by decide +kernel
theorem dX10_shared_121 : decode cX10_shared 121 = .ok (.iconst 0, 1) := by decide +kernel
theorem dX10_shared_122 : decode cX10_shared 122 = .ok (.ior, 1) := by decide +kernel
theorem dX10_shared_123 : decode cX10_shared 123 = .ok (.istore_n 3, 1) := by decide +kernel
theorem dX10_shared_124 : decode cX10_shared 124 = .ok (.iinc 4 1, 3) := by decide +kernel
theorem dX10_shared_127 : decode cX10_shared 127 = .ok (.goto (-36), 3) := by decide +kernel
theorem dX10_shared_130 : decode cX10_shared 130 = .ok (.iload_n 3, 1) := by decide +kernel
theorem dX10_shared_131 : decode cX10_shared 131 = .ok (.invokestatic 278, 3) := by decide +kernel
theorem dX10_shared_134 : decode cX10_shared 134 = .ok (.ireturn, 1) := by decide +kernel
theorem dX10_dealt_0 : decode cX10_dealt 0 = .ok (.iload_n 1, 1) := by decide +kernel
theorem dX10_dealt_1 : decode cX10_dealt 1 = .ok (.i2l, 1) := by decide +kernel
theorem dX10_dealt_2 : decode cX10_dealt 2 = .ok (.lconst 1, 1) := by decide +kernel
theorem dX10_dealt_3 : decode cX10_dealt 3 = .ok (.ldc2_w 192, 3) := by decide +kernel
theorem dX10_dealt_6 : decode cX10_dealt 6 = .ok (.invokestatic 77, 3) := by decide +kernel
theorem dX10_dealt_9 : decode cX10_dealt 9 = .ok (.ifCond .ne 20, 3) := by decide +kernel
theorem dX10_dealt_12 : decode cX10_dealt 12 = .ok (.aload_n 0, 1) := by decide +kernel
theorem dX10_dealt_13 : decode cX10_dealt 13 = .ok (.iload_n 1, 1) := by decide +kernel
theorem dX10_dealt_14 : decode cX10_dealt 14 = .ok (.iconst 1, 1) := by decide +kernel
theorem dX10_dealt_15 : decode cX10_dealt 15 = .ok (.if_icmp .ge 8, 3) := by decide +kernel
theorem dX10_dealt_18 : decode cX10_dealt 18 = .ok (.bipush (-4), 2) := by decide +kernel
theorem dX10_dealt_20 : decode cX10_dealt 20 = .ok (.goto 5, 3) := by decide +kernel
theorem dX10_dealt_23 : decode cX10_dealt 23 = .ok (.bipush (-6), 2) := by decide +kernel
theorem dX10_dealt_25 : decode cX10_dealt 25 = .ok (.invokevirtual 66, 3) := by decide +kernel
theorem dX10_dealt_28 : decode cX10_dealt 28 = .ok (.ireturn, 1) := by decide +kernel
theorem dX10_dealt_29 : decode cX10_dealt 29 = .ok (.aload_n 0, 1) := by decide +kernel
theorem dX10_dealt_30 : decode cX10_dealt 30 = .ok (.getfield 9, 3) := by decide +kernel
theorem dX10_dealt_33 : decode cX10_dealt 33 = .ok (.iload_n 2, 1) := by decide +kernel
theorem dX10_dealt_34 : decode cX10_dealt 34 = .ok (.invokestatic 163, 3) := by decide +kernel
theorem dX10_dealt_37 : decode cX10_dealt 37 = .ok (.ifCond .ne 9, 3) := by decide +kernel
theorem dX10_dealt_40 : decode cX10_dealt 40 = .ok (.aload_n 0, 1) := by decide +kernel
theorem dX10_dealt_41 : decode cX10_dealt 41 = .ok (.iconst (-1), 1) := by decide +kernel
theorem dX10_dealt_42 : decode cX10_dealt 42 = .ok (.invokevirtual 66, 3) := by decide +kernel
theorem dX10_dealt_45 : decode cX10_dealt 45 = .ok (.ireturn, 1) := by decide +kernel
theorem dX10_dealt_46 : decode cX10_dealt 46 = .ok (.aload_n 0, 1) := by decide +kernel
theorem dX10_dealt_47 : decode cX10_dealt 47 = .ok (.aload_n 0, 1) := by decide +kernel
theorem dX10_dealt_48 : decode cX10_dealt 48 = .ok (.getfield 9, 3) := by decide +kernel
theorem dX10_dealt_51 : decode cX10_dealt 51 = .ok (.iload_n 1, 1) := by decide +kernel
theorem dX10_dealt_52 : decode cX10_dealt 52 = .ok (.invokevirtual 275, 3) := by decide +kernel
theorem dX10_dealt_55 : decode cX10_dealt 55 = .ok (.aload_n 0, 1) := by decide +kernel
theorem dX10_dealt_56 : decode cX10_dealt 56 = .ok (.getfield 61, 3) := by decide +kernel
theorem dX10_dealt_59 : decode cX10_dealt 59 = .ok (.iload_n 2, 1) := by decide +kernel
theorem dX10_dealt_60 : decode cX10_dealt 60 = .ok (.iaload, 1) := by decide +kernel
theorem dX10_dealt_61 : decode cX10_dealt 61 = .ok (.ireturn, 1) := by decide +kernel
theorem dX10_lowest_0 : decode cX10_lowest 0 = .ok (.lload_n 0, 1) := by decide +kernel
theorem dX10_lowest_1 : decode cX10_lowest 1 = .ok (.lstore 5, 2) := by decide +kernel
theorem dX10_lowest_3 : decode cX10_lowest 3 = .ok (.lload_n 2, 1) := by decide +kernel
theorem dX10_lowest_4 : decode cX10_lowest 4 = .ok (.lstore 7, 2) := by decide +kernel
theorem dX10_lowest_6 : decode cX10_lowest 6 = .ok (.lload 7, 2) := by decide +kernel
theorem dX10_lowest_8 : decode cX10_lowest 8 = .ok (.lconst 0, 1) := by decide +kernel
theorem dX10_lowest_9 : decode cX10_lowest 9 = .ok (.lcmp, 1) := by decide +kernel
theorem dX10_lowest_10 : decode cX10_lowest 10 = .ok (.ifCond .eq 21, 3) := by decide +kernel
theorem dX10_lowest_13 : decode cX10_lowest 13 = .ok (.lload 5, 2) := by decide +kernel
theorem dX10_lowest_15 : decode cX10_lowest 15 = .ok (.lload 7, 2) := by decide +kernel
theorem dX10_lowest_17 : decode cX10_lowest 17 = .ok (.lrem, 1) := by decide +kernel
