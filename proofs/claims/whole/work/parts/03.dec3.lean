theorem dX9_streets_21 : decode cX9_streets 21 = .ok (.iload_n 2, 1) := by decide +kernel
theorem dX9_streets_22 : decode cX9_streets 22 = .ok (.if_icmp .ne 10, 3) := by decide +kernel
theorem dX9_streets_25 : decode cX9_streets 25 = .ok (.aload_n 0, 1) := by decide +kernel
theorem dX9_streets_26 : decode cX9_streets 26 = .ok (.bipush (-3), 2) := by decide +kernel
theorem dX9_streets_28 : decode cX9_streets 28 = .ok (.invokevirtual 86, 3) := by decide +kernel
theorem dX9_streets_31 : decode cX9_streets 31 = .ok (.ireturn, 1) := by decide +kernel
theorem dX9_streets_32 : decode cX9_streets 32 = .ok (.iload_n 3, 1) := by decide +kernel
theorem dX9_streets_33 : decode cX9_streets 33 = .ok (.iconst 1, 1) := by decide +kernel
theorem dX9_streets_34 : decode cX9_streets 34 = .ok (.if_icmp .ge 10, 3) := by decide +kernel
theorem dX9_streets_37 : decode cX9_streets 37 = .ok (.aload_n 0, 1) := by decide +kernel
theorem dX9_streets_38 : decode cX9_streets 38 = .ok (.bipush (-4), 2) := by decide +kernel
theorem dX9_streets_40 : decode cX9_streets 40 = .ok (.invokevirtual 86, 3) := by decide +kernel
theorem dX9_streets_43 : decode cX9_streets 43 = .ok (.ireturn, 1) := by decide +kernel
theorem dX9_streets_44 : decode cX9_streets 44 = .ok (.iload_n 3, 1) := by decide +kernel
theorem dX9_streets_45 : decode cX9_streets 45 = .ok (.bipush 99, 2) := by decide +kernel
theorem dX9_streets_47 : decode cX9_streets 47 = .ok (.if_icmp .gt 15, 3) := by decide +kernel
theorem dX9_streets_50 : decode cX9_streets 50 = .ok (.aload_n 0, 1) := by decide +kernel
theorem dX9_streets_51 : decode cX9_streets 51 = .ok (.getfield 12, 3) := by decide +kernel
theorem dX9_streets_54 : decode cX9_streets 54 = .ok (.getfield 122, 3) := by decide +kernel
theorem dX9_streets_57 : decode cX9_streets 57 = .ok (.bipush 8, 2) := by decide +kernel
theorem dX9_streets_59 : decode cX9_streets 59 = .ok (.if_icmp .lt 10, 3) := by decide +kernel
theorem dX9_streets_62 : decode cX9_streets 62 = .ok (.aload_n 0, 1) := by decide +kernel
theorem dX9_streets_63 : decode cX9_streets 63 = .ok (.bipush (-6), 2) := by decide +kernel
theorem dX9_streets_65 : decode cX9_streets 65 = .ok (.invokevirtual 86, 3) := by decide +kernel
theorem dX9_streets_68 : decode cX9_streets 68 = .ok (.ireturn, 1) := by decide +kernel
theorem dX9_streets_69 : decode cX9_streets 69 = .ok (.aload_n 0, 1) := by decide +kernel
theorem dX9_streets_70 : decode cX9_streets 70 = .ok (.getfield 12, 3) := by decide +kernel
theorem dX9_streets_73 : decode cX9_streets 73 = .ok (.iload_n 1, 1) := by decide +kernel
theorem dX9_streets_74 : decode cX9_streets 74 = .ok (.iload_n 2, 1) := by decide +kernel
theorem dX9_streets_75 : decode cX9_streets 75 = .ok (.iload_n 3, 1) := by decide +kernel
theorem dX9_streets_76 : decode cX9_streets 76 = .ok (.invokevirtual 123, 3) := by decide +kernel
theorem dX9_streets_79 : decode cX9_streets 79 = .ok (.aload_n 0, 1) := by decide +kernel
theorem dX9_streets_80 : decode cX9_streets 80 = .ok (.getfield 12, 3) := by decide +kernel
theorem dX9_streets_83 : decode cX9_streets 83 = .ok (.getfield 122, 3) := by decide +kernel
theorem dX9_streets_86 : decode cX9_streets 86 = .ok (.iconst 1, 1) := by decide +kernel
theorem dX9_streets_87 : decode cX9_streets 87 = .ok (.isub, 1) := by decide +kernel
theorem dX9_streets_88 : decode cX9_streets 88 = .ok (.ireturn, 1) := by decide +kernel
theorem dX9_turns_0 : decode cX9_turns 0 = .ok (.aload_n 0, 1) := by decide +kernel
theorem dX9_turns_1 : decode cX9_turns 1 = .ok (.getfield 12, 3) := by decide +kernel
theorem dX9_turns_4 : decode cX9_turns 4 = .ok (.iload_n 1, 1) := by decide +kernel
theorem dX9_turns_5 : decode cX9_turns 5 = .ok (.invokevirtual 127, 3) := by decide +kernel
theorem dX9_turns_8 : decode cX9_turns 8 = .ok (.ifCond .ne 9, 3) := by decide +kernel
theorem dX9_turns_11 : decode cX9_turns 11 = .ok (.aload_n 0, 1) := by decide +kernel
theorem dX9_turns_12 : decode cX9_turns 12 = .ok (.iconst (-1), 1) := by decide +kernel
theorem dX9_turns_13 : decode cX9_turns 13 = .ok (.invokevirtual 86, 3) := by decide +kernel
theorem dX9_turns_16 : decode cX9_turns 16 = .ok (.ireturn, 1) := by decide +kernel
theorem dX9_turns_17 : decode cX9_turns 17 = .ok (.aload_n 0, 1) := by decide +kernel
theorem dX9_turns_18 : decode cX9_turns 18 = .ok (.getfield 12, 3) := by decide +kernel
theorem dX9_turns_21 : decode cX9_turns 21 = .ok (.iload_n 1, 1) := by decide +kernel
theorem dX9_turns_22 : decode cX9_turns 22 = .ok (.invokevirtual 130, 3) := by decide +kernel
theorem dX9_turns_25 : decode cX9_turns 25 = .ok (.aload_n 0, 1) := by decide +kernel
theorem dX9_turns_26 : decode cX9_turns 26 = .ok (.getfield 12, 3) := by decide +kernel
theorem dX9_turns_29 : decode cX9_turns 29 = .ok (.iload_n 1, 1) := by decide +kernel
theorem dX9_turns_30 : decode cX9_turns 30 = .ok (.invokevirtual 133, 3) := by decide +kernel
theorem dX9_turns_33 : decode cX9_turns 33 = .ok (.ifCond .eq 7, 3) := by decide +kernel
theorem dX9_turns_36 : decode cX9_turns 36 = .ok (.iconst 1, 1) := by decide +kernel
theorem dX9_turns_37 : decode cX9_turns 37 = .ok (.goto 4, 3) := by decide +kernel
theorem dX9_turns_40 : decode cX9_turns 40 = .ok (.iconst 0, 1) := by decide +kernel
theorem dX9_turns_41 : decode cX9_turns 41 = .ok (.ireturn, 1) := by decide +kernel
theorem dX9_length_0 : decode cX9_length 0 = .ok (.aload_n 0, 1) := by decide +kernel
theorem dX9_length_1 : decode cX9_length 1 = .ok (.getfield 12, 3) := by decide +kernel
theorem dX9_length_4 : decode cX9_length 4 = .ok (.iload_n 1, 1) := by decide +kernel
theorem dX9_length_5 : decode cX9_length 5 = .ok (.invokevirtual 127, 3) := by decide +kernel
theorem dX9_length_8 : decode cX9_length 8 = .ok (.ifCond .ne 9, 3) := by decide +kernel
theorem dX9_length_11 : decode cX9_length 11 = .ok (.aload_n 0, 1) := by decide +kernel
theorem dX9_length_12 : decode cX9_length 12 = .ok (.iconst (-1), 1) := by decide +kernel
theorem dX9_length_13 : decode cX9_length 13 = .ok (.invokevirtual 86, 3) := by decide +kernel
theorem dX9_length_16 : decode cX9_length 16 = .ok (.ireturn, 1) := by decide +kernel
theorem dX9_length_17 : decode cX9_length 17 = .ok (.iload_n 2, 1) := by decide +kernel
theorem dX9_length_18 : decode cX9_length 18 = .ok (.iconst 1, 1) := by decide +kernel
theorem dX9_length_19 : decode cX9_length 19 = .ok (.if_icmp .ge 10, 3) := by decide +kernel
theorem dX9_length_22 : decode cX9_length 22 = .ok (.aload_n 0, 1) := by decide +kernel
theorem dX9_length_23 : decode cX9_length 23 = .ok (.bipush (-4), 2) := by decide +kernel
theorem dX9_length_25 : decode cX9_length 25 = .ok (.invokevirtual 86, 3) := by decide +kernel
theorem dX9_length_28 : decode cX9_length 28 = .ok (.ireturn, 1) := by decide +kernel
theorem dX9_length_29 : decode cX9_length 29 = .ok (.iload_n 2, 1) := by decide +kernel
theorem dX9_length_30 : decode cX9_length 30 = .ok (.bipush 99, 2) := by decide +kernel
theorem dX9_length_32 : decode cX9_length 32 = .ok (.if_icmp .le 10, 3) := by decide +kernel
theorem dX9_length_35 : decode cX9_length 35 = .ok (.aload_n 0, 1) := by decide +kernel
theorem dX9_length_36 : decode cX9_length 36 = .ok (.bipush (-6), 2) := by decide +kernel
theorem dX9_length_38 : decode cX9_length 38 = .ok (.invokevirtual 86, 3) := by decide +kernel
theorem dX9_length_41 : decode cX9_length 41 = .ok (.ireturn, 1) := by decide +kernel
theorem dX9_length_42 : decode cX9_length 42 = .ok (.aload_n 0, 1) := by decide +kernel
theorem dX9_length_43 : decode cX9_length 43 = .ok (.getfield 12, 3) := by decide +kernel
theorem dX9_length_46 : decode cX9_length 46 = .ok (.getfield 136, 3) := by decide +kernel
theorem dX9_length_49 : decode cX9_length 49 = .ok (.iload_n 1, 1) := by decide +kernel
theorem dX9_length_50 : decode cX9_length 50 = .ok (.iaload, 1) := by decide +kernel
theorem dX9_length_51 : decode cX9_length 51 = .ok (.istore_n 3, 1) := by decide +kernel
theorem dX9_length_52 : decode cX9_length 52 = .ok (.aload_n 0, 1) := by decide +kernel
theorem dX9_length_53 : decode cX9_length 53 = .ok (.getfield 12, 3) := by decide +kernel
theorem dX9_length_56 : decode cX9_length 56 = .ok (.getfield 136, 3) := by decide +kernel
theorem dX9_length_59 : decode cX9_length 59 = .ok (.iload_n 1, 1) := by decide +kernel
theorem dX9_length_60 : decode cX9_length 60 = .ok (.iload_n 2, 1) := by decide +kernel
theorem dX9_length_61 : decode cX9_length 61 = .ok (.iastore, 1) := by decide +kernel
theorem dX9_length_62 : decode cX9_length 62 = .ok (.iload_n 3, 1) := by decide +kernel
theorem dX9_length_63 : decode cX9_length 63 = .ok (.ireturn, 1) := by decide +kernel
theorem dX9_kind_0 : decode cX9_kind 0 = .ok (.aload_n 0, 1) := by decide +kernel
theorem dX9_kind_1 : decode cX9_kind 1 = .ok (.getfield 12, 3) := by decide +kernel
theorem dX9_kind_4 : decode cX9_kind 4 = .ok (.iload_n 1, 1) := by decide +kernel
theorem dX9_kind_5 : decode cX9_kind 5 = .ok (.invokevirtual 127, 3) := by decide +kernel
theorem dX9_kind_8 : decode cX9_kind 8 = .ok (.ifCond .ne 9, 3) := by decide +kernel
theorem dX9_kind_11 : decode cX9_kind 11 = .ok (.aload_n 0, 1) := by decide +kernel
theorem dX9_kind_12 : decode cX9_kind 12 = .ok (.iconst (-1), 1) := by decide +kernel
theorem dX9_kind_13 : decode cX9_kind 13 = .ok (.invokevirtual 86, 3) := by decide +kernel
theorem dX9_kind_16 : decode cX9_kind 16 = .ok (.ireturn, 1) := by decide +kernel
theorem dX9_kind_17 : decode cX9_kind 17 = .ok (.iload_n 2, 1) := by decide +kernel
theorem dX9_kind_18 : decode cX9_kind 18 = .ok (.ifCond .lt 9, 3) := by decide +kernel
theorem dX9_kind_21 : decode cX9_kind 21 = .ok (.iload_n 2, 1) := by decide +kernel
theorem dX9_kind_22 : decode cX9_kind 22 = .ok (.bipush 6, 2) := by decide +kernel
theorem dX9_kind_24 : decode cX9_kind 24 = .ok (.if_icmp .lt 10, 3) := by decide +kernel
theorem dX9_kind_27 : decode cX9_kind 27 = .ok (.aload_n 0, 1) := by decide +kernel
theorem dX9_kind_28 : decode cX9_kind 28 = .ok (.bipush (-2), 2) := by decide +kernel
theorem dX9_kind_30 : decode cX9_kind 30 = .ok (.invokevirtual 86, 3) := by decide +kernel
theorem dX9_kind_33 : decode cX9_kind 33 = .ok (.ireturn, 1) := by decide +kernel
theorem dX9_kind_34 : decode cX9_kind 34 = .ok (.iload_n 3, 1) := by decide +kernel
theorem dX9_kind_35 : decode cX9_kind 35 = .ok (.ifCond .ge 10, 3) := by decide +kernel
theorem dX9_kind_38 : decode cX9_kind 38 = .ok (.aload_n 0, 1) := by decide +kernel
theorem dX9_kind_39 : decode cX9_kind 39 = .ok (.bipush (-4), 2) := by decide +kernel
theorem dX9_kind_41 : decode cX9_kind 41 = .ok (.invokevirtual 86, 3) := by decide +kernel
theorem dX9_kind_44 : decode cX9_kind 44 = .ok (.ireturn, 1) := by decide +kernel
theorem dX9_kind_45 : decode cX9_kind 45 = .ok (.iload_n 3, 1) := by decide +kernel
theorem dX9_kind_46 : decode cX9_kind 46 = .ok (.bipush 10, 2) := by decide +kernel
theorem dX9_kind_48 : decode cX9_kind 48 = .ok (.if_icmp .lt 10, 3) := by decide +kernel
theorem dX9_kind_51 : decode cX9_kind 51 = .ok (.aload_n 0, 1) := by decide +kernel
theorem dX9_kind_52 : decode cX9_kind 52 = .ok (.bipush (-6), 2) := by decide +kernel
theorem dX9_kind_54 : decode cX9_kind 54 = .ok (.invokevirtual 86, 3) := by decide +kernel
theorem dX9_kind_57 : decode cX9_kind 57 = .ok (.ireturn, 1) := by decide +kernel
theorem dX9_kind_58 : decode cX9_kind 58 = .ok (.bipush 10, 2) := by decide +kernel
theorem dX9_kind_60 : decode cX9_kind 60 = .ok (.aload_n 0, 1) := by decide +kernel
theorem dX9_kind_61 : decode cX9_kind 61 = .ok (.getfield 12, 3) := by decide +kernel
theorem dX9_kind_64 : decode cX9_kind 64 = .ok (.getfield 139, 3) := by decide +kernel
theorem dX9_kind_67 : decode cX9_kind 67 = .ok (.iload_n 1, 1) := by decide +kernel
theorem dX9_kind_68 : decode cX9_kind 68 = .ok (.iaload, 1) := by decide +kernel
theorem dX9_kind_69 : decode cX9_kind 69 = .ok (.imul, 1) := by decide +kernel
theorem dX9_kind_70 : decode cX9_kind 70 = .ok (.aload_n 0, 1) := by decide +kernel
theorem dX9_kind_71 : decode cX9_kind 71 = .ok (.getfield 12, 3) := by decide +kernel
theorem dX9_kind_74 : decode cX9_kind 74 = .ok (.getfield 142, 3) := by decide +kernel
theorem dX9_kind_77 : decode cX9_kind 77 = .ok (.iload_n 1, 1) := by decide +kernel
theorem dX9_kind_78 : decode cX9_kind 78 = .ok (.iaload, 1) := by decide +kernel
theorem dX9_kind_79 : decode cX9_kind 79 = .ok (.iadd, 1) := by decide +kernel
theorem dX9_kind_80 : decode cX9_kind 80 = .ok (.istore 4, 2) := by decide +kernel
theorem dX9_kind_82 : decode cX9_kind 82 = .ok (.aload_n 0, 1) := by decide +kernel
theorem dX9_kind_83 : decode cX9_kind 83 = .ok (.getfield 12, 3) := by decide +kernel
theorem dX9_kind_86 : decode cX9_kind 86 = .ok (.getfield 139, 3) := by decide +kernel
theorem dX9_kind_89 : decode cX9_kind 89 = .ok (.iload_n 1, 1) := by decide +kernel
theorem dX9_kind_90 : decode cX9_kind 90 = .ok (.iload_n 2, 1) := by decide +kernel
theorem dX9_kind_91 : decode cX9_kind 91 = .ok (.iastore, 1) := by decide +kernel
theorem dX9_kind_92 : decode cX9_kind 92 = .ok (.aload_n 0, 1) := by decide +kernel
theorem dX9_kind_93 : decode cX9_kind 93 = .ok (.getfield 12, 3) := by decide +kernel
theorem dX9_kind_96 : decode cX9_kind 96 = .ok (.getfield 142, 3) := by decide +kernel
theorem dX9_kind_99 : decode cX9_kind 99 = .ok (.iload_n 1, 1) := by decide +kernel
theorem dX9_kind_100 : decode cX9_kind 100 = .ok (.iload_n 3, 1) := by decide +kernel
theorem dX9_kind_101 : decode cX9_kind 101 = .ok (.iastore, 1) := by decide +kernel
theorem dX9_kind_102 : decode cX9_kind 102 = .ok (.iload 4, 2) := by decide +kernel
theorem dX9_kind_104 : decode cX9_kind 104 = .ok (.ireturn, 1) := by decide +kernel
theorem dX9_home_0 : decode cX9_home 0 = .ok (.iload_n 1, 1) := by decide +kernel
theorem dX9_home_1 : decode cX9_home 1 = .ok (.invokestatic 118, 3) := by decide +kernel
theorem dX9_home_4 : decode cX9_home 4 = .ok (.ifCond .ne 9, 3) := by decide +kernel
theorem dX9_home_7 : decode cX9_home 7 = .ok (.aload_n 0, 1) := by decide +kernel
theorem dX9_home_8 : decode cX9_home 8 = .ok (.iconst (-1), 1) := by decide +kernel
theorem dX9_home_9 : decode cX9_home 9 = .ok (.invokevirtual 86, 3) := by decide +kernel
theorem dX9_home_12 : decode cX9_home 12 = .ok (.ireturn, 1) := by decide +kernel
theorem dX9_home_13 : decode cX9_home 13 = .ok (.aload_n 0, 1) := by decide +kernel
theorem dX9_home_14 : decode cX9_home 14 = .ok (.getfield 12, 3) := by decide +kernel
theorem dX9_home_17 : decode cX9_home 17 = .ok (.getfield 145, 3) := by decide +kernel
theorem dX9_home_20 : decode cX9_home 20 = .ok (.istore_n 2, 1) := by decide +kernel
theorem dX9_home_21 : decode cX9_home 21 = .ok (.aload_n 0, 1) := by decide +kernel
theorem dX9_home_22 : decode cX9_home 22 = .ok (.getfield 12, 3) := by decide +kernel
theorem dX9_home_25 : decode cX9_home 25 = .ok (.iload_n 1, 1) := by decide +kernel
theorem dX9_home_26 : decode cX9_home 26 = .ok (.putfield 145, 3) := by decide +kernel
theorem dX9_home_29 : decode cX9_home 29 = .ok (.iload_n 2, 1) := by decide +kernel
theorem dX9_home_30 : decode cX9_home 30 = .ok (.ireturn, 1) := by decide +kernel
theorem dX9_street_0 : decode cX9_street 0 = .ok (.aload_n 0, 1) := by decide +kernel
theorem dX9_street_1 : decode cX9_street 1 = .ok (.getfield 12, 3) := by decide +kernel
theorem dX9_street_4 : decode cX9_street 4 = .ok (.iload_n 1, 1) := by decide +kernel
theorem dX9_street_5 : decode cX9_street 5 = .ok (.invokevirtual 127, 3) := by decide +kernel
theorem dX9_street_8 : decode cX9_street 8 = .ok (.ifCond .ne 9, 3) := by decide +kernel
theorem dX9_street_11 : decode cX9_street 11 = .ok (.aload_n 0, 1) := by decide +kernel
theorem dX9_street_12 : decode cX9_street 12 = .ok (.iconst (-1), 1) := by decide +kernel
theorem dX9_street_13 : decode cX9_street 13 = .ok (.invokevirtual 86, 3) := by decide +kernel
theorem dX9_street_16 : decode cX9_street 16 = .ok (.ireturn, 1) := by decide +kernel
theorem dX9_street_17 : decode cX9_street 17 = .ok (.iload_n 2, 1) := by decide +kernel
theorem dX9_street_18 : decode cX9_street 18 = .ok (.tableswitch 137 0 7 #[46, 56, 66, 76, 86, 96, 113, 125], 46) := by decide +kernel
theorem dX9_street_64 : decode cX9_street 64 = .ok (.aload_n 0, 1) := by decide +kernel
theorem dX9_street_65 : decode cX9_street 65 = .ok (.getfield 12, 3) := by decide +kernel
theorem dX9_street_68 : decode cX9_street 68 = .ok (.getfield 148, 3) := by decide +kernel
theorem dX9_street_71 : decode cX9_street 71 = .ok (.iload_n 1, 1) := by decide +kernel
theorem dX9_street_72 : decode cX9_street 72 = .ok (.iaload, 1) := by decide +kernel
theorem dX9_street_73 : decode cX9_street 73 = .ok (.ireturn, 1) := by decide +kernel
theorem dX9_street_74 : decode cX9_street 74 = .ok (.aload_n 0, 1) := by decide +kernel
theorem dX9_street_75 : decode cX9_street 75 = .ok (.getfield 12, 3) := by decide +kernel
theorem dX9_street_78 : decode cX9_street 78 = .ok (.getfield 151, 3) := by decide +kernel
theorem dX9_street_81 : decode cX9_street 81 = .ok (.iload_n 1, 1) := by decide +kernel
theorem dX9_street_82 : decode cX9_street 82 = .ok (.iaload, 1) := by decide +kernel
theorem dX9_street_83 : decode cX9_street 83 = .ok (.ireturn, 1) := by decide +kernel
theorem dX9_street_84 : decode cX9_street 84 = .ok (.aload_n 0, 1) := by decide +kernel
theorem dX9_street_85 : decode cX9_street 85 = .ok (.getfield 12, 3) := by decide +kernel
theorem dX9_street_88 : decode cX9_street 88 = .ok (.getfield 136, 3) := by decide +kernel
theorem dX9_street_91 : decode cX9_street 91 = .ok (.iload_n 1, 1) := by decide +kernel
theorem dX9_street_92 : decode cX9_street 92 = .ok (.iaload, 1) := by decide +kernel
theorem dX9_street_93 : decode cX9_street 93 = .ok (.ireturn, 1) := by decide +kernel
theorem dX9_street_94 : decode cX9_street 94 = .ok (.aload_n 0, 1) := by decide +kernel
theorem dX9_street_95 : decode cX9_street 95 = .ok (.getfield 12, 3) := by decide +kernel
theorem dX9_street_98 : decode cX9_street 98 = .ok (.getfield 139, 3) := by decide +kernel
theorem dX9_street_101 : decode cX9_street 101 = .ok (.iload_n 1, 1) := by decide +kernel
theorem dX9_street_102 : decode cX9_street 102 = .ok (.iaload, 1) := by decide +kernel
theorem dX9_street_103 : decode cX9_street 103 = .ok (.ireturn, 1) := by decide +kernel
theorem dX9_street_104 : decode cX9_street 104 = .ok (.aload_n 0, 1) := by decide +kernel
theorem dX9_street_105 : decode cX9_street 105 = .ok (.getfield 12, 3) := by decide +kernel
theorem dX9_street_108 : decode cX9_street 108 = .ok (.getfield 142, 3) := by decide +kernel
theorem dX9_street_111 : decode cX9_street 111 = .ok (.iload_n 1, 1) := by decide +kernel
theorem dX9_street_112 : decode cX9_street 112 = .ok (.iaload, 1) := by decide +kernel
theorem dX9_street_113 : decode cX9_street 113 = .ok (.ireturn, 1) := by decide +kernel
theorem dX9_street_114 : decode cX9_street 114 = .ok (.aload_n 0, 1) := by decide +kernel
theorem dX9_street_115 : decode cX9_street 115 = .ok (.getfield 12, 3) := by decide +kernel
theorem dX9_street_118 : decode cX9_street 118 = .ok (.iload_n 1, 1) := by decide +kernel
theorem dX9_street_119 : decode cX9_street 119 = .ok (.invokevirtual 133, 3) := by decide +kernel
theorem dX9_street_122 : decode cX9_street 122 = .ok (.ifCond .eq 7, 3) := by decide +kernel
theorem dX9_street_125 : decode cX9_street 125 = .ok (.iconst 1, 1) := by decide +kernel
theorem dX9_street_126 : decode cX9_street 126 = .ok (.goto 4, 3) := by decide +kernel
theorem dX9_street_129 : decode cX9_street 129 = .ok (.iconst 0, 1) := by decide +kernel
theorem dX9_street_130 : decode cX9_street 130 = .ok (.ireturn, 1) := by decide +kernel
theorem dX9_street_131 : decode cX9_street 131 = .ok (.aload_n 0, 1) := by decide +kernel
theorem dX9_street_132 : decode cX9_street 132 = .ok (.getfield 12, 3) := by decide +kernel
theorem dX9_street_135 : decode cX9_street 135 = .ok (.iload_n 1, 1) := by decide +kernel
theorem dX9_street_136 : decode cX9_street 136 = .ok (.invokevirtual 154, 3) := by decide +kernel
theorem dX9_street_139 : decode cX9_street 139 = .ok (.invokestatic 157, 3) := by decide +kernel
theorem dX9_street_142 : decode cX9_street 142 = .ok (.ireturn, 1) := by decide +kernel
theorem dX9_street_143 : decode cX9_street 143 = .ok (.aload_n 0, 1) := by decide +kernel
theorem dX9_street_144 : decode cX9_street 144 = .ok (.getfield 12, 3) := by decide +kernel
theorem dX9_street_147 : decode cX9_street 147 = .ok (.iload_n 1, 1) := by decide +kernel
theorem dX9_street_148 : decode cX9_street 148 = .ok (.invokevirtual 160, 3) := by decide +kernel
theorem dX9_street_151 : decode cX9_street 151 = .ok (.invokestatic 157, 3) := by decide +kernel
theorem dX9_street_154 : decode cX9_street 154 = .ok (.ireturn, 1) := by decide +kernel
theorem dX9_street_155 : decode cX9_street 155 = .ok (.aload_n 0, 1) := by decide +kernel
theorem dX9_street_156 : decode cX9_street 156 = .ok (.bipush (-2), 2) := by decide +kernel
theorem dX9_street_158 : decode cX9_street 158 = .ok (.invokevirtual 86, 3) := by decide +kernel
theorem dX9_street_161 : decode cX9_street 161 = .ok (.ireturn, 1) := by decide +kernel
theorem dX9_corner_0 : decode cX9_corner 0 = .ok (.iload_n 1, 1) := by decide +kernel
theorem dX9_corner_1 : decode cX9_corner 1 = .ok (.invokestatic 118, 3) := by decide +kernel
theorem dX9_corner_4 : decode cX9_corner 4 = .ok (.ifCond .ne 9, 3) := by decide +kernel
theorem dX9_corner_7 : decode cX9_corner 7 = .ok (.aload_n 0, 1) := by decide +kernel
theorem dX9_corner_8 : decode cX9_corner 8 = .ok (.iconst (-1), 1) := by decide +kernel
theorem dX9_corner_9 : decode cX9_corner 9 = .ok (.invokevirtual 86, 3) := by decide +kernel
theorem dX9_corner_12 : decode cX9_corner 12 = .ok (.ireturn, 1) := by decide +kernel
theorem dX9_corner_13 : decode cX9_corner 13 = .ok (.iload_n 2, 1) := by decide +kernel
theorem dX9_corner_14 : decode cX9_corner 14 = .ok (.tableswitch 50 0 2 #[26, 35, 44], 26) := by decide +kernel
theorem dX9_corner_40 : decode cX9_corner 40 = .ok (.aload_n 0, 1) := by decide +kernel
theorem dX9_corner_41 : decode cX9_corner 41 = .ok (.getfield 12, 3) := by decide +kernel
theorem dX9_corner_44 : decode cX9_corner 44 = .ok (.iload_n 1, 1) := by decide +kernel
theorem dX9_corner_45 : decode cX9_corner 45 = .ok (.invokevirtual 163, 3) := by decide +kernel
theorem dX9_corner_48 : decode cX9_corner 48 = .ok (.ireturn, 1) := by decide +kernel
theorem dX9_corner_49 : decode cX9_corner 49 = .ok (.aload_n 0, 1) := by decide +kernel
theorem dX9_corner_50 : decode cX9_corner 50 = .ok (.getfield 12, 3) := by decide +kernel
theorem dX9_corner_53 : decode cX9_corner 53 = .ok (.iload_n 1, 1) := by decide +kernel
theorem dX9_corner_54 : decode cX9_corner 54 = .ok (.invokevirtual 166, 3) := by decide +kernel
theorem dX9_corner_57 : decode cX9_corner 57 = .ok (.ireturn, 1) := by decide +kernel
theorem dX9_corner_58 : decode cX9_corner 58 = .ok (.aload_n 0, 1) := by decide +kernel
theorem dX9_corner_59 : decode cX9_corner 59 = .ok (.iload_n 1, 1) := by decide +kernel
theorem dX9_corner_60 : decode cX9_corner 60 = .ok (.invokevirtual 169, 3) := by decide +kernel
theorem dX9_corner_63 : decode cX9_corner 63 = .ok (.ireturn, 1) := by decide +kernel
theorem dX9_corner_64 : decode cX9_corner 64 = .ok (.aload_n 0, 1) := by decide +kernel
theorem dX9_corner_65 : decode cX9_corner 65 = .ok (.bipush (-2), 2) := by decide +kernel
theorem dX9_corner_67 : decode cX9_corner 67 = .ok (.invokevirtual 86, 3) := by decide +kernel
theorem dX9_corner_70 : decode cX9_corner 70 = .ok (.ireturn, 1) := by decide +kernel
theorem dX9_cornersFrom_0 : decode cX9_cornersFrom 0 = .ok (.aload_n 0, 1) := by decide +kernel
theorem dX9_cornersFrom_1 : decode cX9_cornersFrom 1 = .ok (.getfield 29, 3) := by decide +kernel
theorem dX9_cornersFrom_4 : decode cX9_cornersFrom 4 = .ok (.aload_n 0, 1) := by decide +kernel
theorem dX9_cornersFrom_5 : decode cX9_cornersFrom 5 = .ok (.getfield 12, 3) := by decide +kernel
theorem dX9_cornersFrom_8 : decode cX9_cornersFrom 8 = .ok (.iconst 0, 1) := by decide +kernel
theorem dX9_cornersFrom_9 : decode cX9_cornersFrom 9 = .ok (.invokevirtual 172, 3) := by decide +kernel
theorem dX9_cornersFrom_12 : decode cX9_cornersFrom 12 = .ok (.iconst 0, 1) := by decide +kernel
theorem dX9_cornersFrom_13 : decode cX9_cornersFrom 13 = .ok (.istore_n 2, 1) := by decide +kernel
theorem dX9_cornersFrom_14 : decode cX9_cornersFrom 14 = .ok (.iconst 0, 1) := by decide +kernel
theorem dX9_cornersFrom_15 : decode cX9_cornersFrom 15 = .ok (.istore_n 3, 1) := by decide +kernel
theorem dX9_cornersFrom_16 : decode cX9_cornersFrom 16 = .ok (.iload_n 3, 1) := by decide +kernel
theorem dX9_cornersFrom_17 : decode cX9_cornersFrom 17 = .ok (.bipush 6, 2) := by decide +kernel
theorem dX9_cornersFrom_19 : decode cX9_cornersFrom 19 = .ok (.if_icmp .ge 29, 3) := by decide +kernel
theorem dX9_cornersFrom_22 : decode cX9_cornersFrom 22 = .ok (.aload_n 0, 1) := by decide +kernel
theorem dX9_cornersFrom_23 : decode cX9_cornersFrom 23 = .ok (.getfield 29, 3) := by decide +kernel
theorem dX9_cornersFrom_26 : decode cX9_cornersFrom 26 = .ok (.iload_n 1, 1) := by decide +kernel
theorem dX9_cornersFrom_27 : decode cX9_cornersFrom 27 = .ok (.iload_n 3, 1) := by decide +kernel
theorem dX9_cornersFrom_28 : decode cX9_cornersFrom 28 = .ok (.invokevirtual 176, 3) := by decide +kernel
theorem dX9_cornersFrom_31 : decode cX9_cornersFrom 31 = .ok (.ldc 180, 2) := by decide +kernel
theorem dX9_cornersFrom_33 : decode cX9_cornersFrom 33 = .ok (.if_icmp .ge 9, 3) := by decide +kernel
theorem dX9_cornersFrom_36 : decode cX9_cornersFrom 36 = .ok (.iload_n 2, 1) := by decide +kernel
theorem dX9_cornersFrom_37 : decode cX9_cornersFrom 37 = .ok (.iconst 1, 1) := by decide +kernel
theorem dX9_cornersFrom_38 : decode cX9_cornersFrom 38 = .ok (.iload_n 3, 1) := by decide +kernel
theorem dX9_cornersFrom_39 : decode cX9_cornersFrom 39 = .ok (.ishl, 1) := by decide +kernel
theorem dX9_cornersFrom_40 : decode cX9_cornersFrom 40 = .ok (.ior, 1) := by decide +kernel
theorem dX9_cornersFrom_41 : decode cX9_cornersFrom 41 = .ok (.istore_n 2, 1) := by decide +kernel
theorem dX9_cornersFrom_42 : decode cX9_cornersFrom 42 = .ok (.iinc 3 1, 3) := by decide +kernel
theorem dX9_cornersFrom_45 : decode cX9_cornersFrom 45 = .ok (.goto (-29), 3) := by decide +kernel
theorem dX9_cornersFrom_48 : decode cX9_cornersFrom 48 = .ok (.iload_n 2, 1) := by decide +kernel
theorem dX9_cornersFrom_49 : decode cX9_cornersFrom 49 = .ok (.ireturn, 1) := by decide +kernel
theorem dX9_distance_0 : decode cX9_distance 0 = .ok (.iload_n 1, 1) := by decide +kernel
theorem dX9_distance_1 : decode cX9_distance 1 = .ok (.invokestatic 118, 3) := by decide +kernel
theorem dX9_distance_4 : decode cX9_distance 4 = .ok (.ifCond .eq 10, 3) := by decide +kernel
theorem dX9_distance_7 : decode cX9_distance 7 = .ok (.iload_n 2, 1) := by decide +kernel
theorem dX9_distance_8 : decode cX9_distance 8 = .ok (.invokestatic 118, 3) := by decide +kernel
theorem dX9_distance_11 : decode cX9_distance 11 = .ok (.ifCond .ne 9, 3) := by decide +kernel
theorem dX9_distance_14 : decode cX9_distance 14 = .ok (.aload_n 0, 1) := by decide +kernel
theorem dX9_distance_15 : decode cX9_distance 15 = .ok (.iconst (-1), 1) := by decide +kernel
theorem dX9_distance_16 : decode cX9_distance 16 = .ok (.invokevirtual 86, 3) := by decide +kernel
theorem dX9_distance_19 : decode cX9_distance 19 = .ok (.ireturn, 1) := by decide +kernel
theorem dX9_distance_20 : decode cX9_distance 20 = .ok (.aload_n 0, 1) := by decide +kernel
theorem dX9_distance_21 : decode cX9_distance 21 = .ok (.getfield 29, 3) := by decide +kernel
theorem dX9_distance_24 : decode cX9_distance 24 = .ok (.aload_n 0, 1) := by decide +kernel
theorem dX9_distance_25 : decode cX9_distance 25 = .ok (.getfield 12, 3) := by decide +kernel
theorem dX9_distance_28 : decode cX9_distance 28 = .ok (.iconst 0, 1) := by decide +kernel
theorem dX9_distance_29 : decode cX9_distance 29 = .ok (.invokevirtual 172, 3) := by decide +kernel
theorem dX9_distance_32 : decode cX9_distance 32 = .ok (.aload_n 0, 1) := by decide +kernel
theorem dX9_distance_33 : decode cX9_distance 33 = .ok (.getfield 29, 3) := by decide +kernel
theorem dX9_distance_36 : decode cX9_distance 36 = .ok (.iload_n 1, 1) := by decide +kernel
theorem dX9_distance_37 : decode cX9_distance 37 = .ok (.iload_n 2, 1) := by decide +kernel
theorem dX9_distance_38 : decode cX9_distance 38 = .ok (.invokevirtual 176, 3) := by decide +kernel
theorem dX9_distance_41 : decode cX9_distance 41 = .ok (.invokestatic 157, 3) := by decide +kernel
theorem dX9_distance_44 : decode cX9_distance 44 = .ok (.ireturn, 1) := by decide +kernel
theorem dX9_next_0 : decode cX9_next 0 = .ok (.iload_n 1, 1) := by decide +kernel
theorem dX9_next_1 : decode cX9_next 1 = .ok (.invokestatic 118, 3) := by decide +kernel
theorem dX9_next_4 : decode cX9_next 4 = .ok (.ifCond .eq 10, 3) := by decide +kernel
theorem dX9_next_7 : decode cX9_next 7 = .ok (.iload_n 2, 1) := by decide +kernel
theorem dX9_next_8 : decode cX9_next 8 = .ok (.invokestatic 118, 3) := by decide +kernel
theorem dX9_next_11 : decode cX9_next 11 = .ok (.ifCond .ne 9, 3) := by decide +kernel
theorem dX9_next_14 : decode cX9_next 14 = .ok (.aload_n 0, 1) := by decide +kernel
theorem dX9_next_15 : decode cX9_next 15 = .ok (.iconst (-1), 1) := by decide +kernel
theorem dX9_next_16 : decode cX9_next 16 = .ok (.invokevirtual 86, 3) := by decide +kernel
theorem dX9_next_19 : decode cX9_next 19 = .ok (.ireturn, 1) := by decide +kernel
theorem dX9_next_20 : decode cX9_next 20 = .ok (.aload_n 0, 1) := by decide +kernel
theorem dX9_next_21 : decode cX9_next 21 = .ok (.getfield 29, 3) := by decide +kernel
theorem dX9_next_24 : decode cX9_next 24 = .ok (.aload_n 0, 1) := by decide +kernel
theorem dX9_next_25 : decode cX9_next 25 = .ok (.getfield 12, 3) := by decide +kernel
theorem dX9_next_28 : decode cX9_next 28 = .ok (.iconst 0, 1) := by decide +kernel
theorem dX9_next_29 : decode cX9_next 29 = .ok (.invokevirtual 172, 3) := by decide +kernel
theorem dX9_next_32 : decode cX9_next 32 = .ok (.aload_n 0, 1) := by decide +kernel
theorem dX9_next_33 : decode cX9_next 33 = .ok (.getfield 29, 3) := by decide +kernel
theorem dX9_next_36 : decode cX9_next 36 = .ok (.iload_n 1, 1) := by decide +kernel
theorem dX9_next_37 : decode cX9_next 37 = .ok (.iload_n 2, 1) := by decide +kernel
theorem dX9_next_38 : decode cX9_next 38 = .ok (.invokevirtual 181, 3) := by decide +kernel
theorem dX9_next_41 : decode cX9_next 41 = .ok (.istore_n 3, 1) := by decide +kernel
theorem dX9_next_42 : decode cX9_next 42 = .ok (.iload_n 3, 1) := by decide +kernel
theorem dX9_next_43 : decode cX9_next 43 = .ok (.ifCond .ge 6, 3) := by decide +kernel
theorem dX9_next_46 : decode cX9_next 46 = .ok (.bipush (-9), 2) := by decide +kernel
theorem dX9_next_48 : decode cX9_next 48 = .ok (.ireturn, 1) := by decide +kernel
theorem dX9_next_49 : decode cX9_next 49 = .ok (.iconst 2, 1) := by decide +kernel
theorem dX9_next_50 : decode cX9_next 50 = .ok (.iload_n 3, 1) := by decide +kernel
theorem dX9_next_51 : decode cX9_next 51 = .ok (.imul, 1) := by decide +kernel
theorem dX9_next_52 : decode cX9_next 52 = .ok (.aload_n 0, 1) := by decide +kernel
theorem dX9_next_53 : decode cX9_next 53 = .ok (.getfield 12, 3) := by decide +kernel
theorem dX9_next_56 : decode cX9_next 56 = .ok (.getfield 148, 3) := by decide +kernel
theorem dX9_next_59 : decode cX9_next 59 = .ok (.iload_n 3, 1) := by decide +kernel
theorem dX9_next_60 : decode cX9_next 60 = .ok (.iaload, 1) := by decide +kernel
theorem dX9_next_61 : decode cX9_next 61 = .ok (.iload_n 1, 1) := by decide +kernel
theorem dX9_next_62 : decode cX9_next 62 = .ok (.if_icmp .ne 7, 3) := by decide +kernel
theorem dX9_next_65 : decode cX9_next 65 = .ok (.iconst 0, 1) := by decide +kernel
theorem dX9_next_66 : decode cX9_next 66 = .ok (.goto 4, 3) := by decide +kernel
theorem dX9_next_69 : decode cX9_next 69 = .ok (.iconst 1, 1) := by decide +kernel
theorem dX9_next_70 : decode cX9_next 70 = .ok (.iadd, 1) := by decide +kernel
theorem dX9_next_71 : decode cX9_next 71 = .ok (.ireturn, 1) := by decide +kernel
theorem dX9_round_0 : decode cX9_round 0 = .ok (.iload_n 1, 1) := by decide +kernel
theorem dX9_round_1 : decode cX9_round 1 = .ok (.ifCond .lt 8, 3) := by decide +kernel
theorem dX9_round_4 : decode cX9_round 4 = .ok (.iload_n 1, 1) := by decide +kernel
theorem dX9_round_5 : decode cX9_round 5 = .ok (.iconst 3, 1) := by decide +kernel
theorem dX9_round_6 : decode cX9_round 6 = .ok (.if_icmp .le 10, 3) := by decide +kernel
theorem dX9_round_9 : decode cX9_round 9 = .ok (.aload_n 0, 1) := by decide +kernel
theorem dX9_round_10 : decode cX9_round 10 = .ok (.bipush (-2), 2) := by decide +kernel
theorem dX9_round_12 : decode cX9_round 12 = .ok (.invokevirtual 86, 3) := by decide +kernel
theorem dX9_round_15 : decode cX9_round 15 = .ok (.ireturn, 1) := by decide +kernel
theorem dX9_round_16 : decode cX9_round 16 = .ok (.aload_n 0, 1) := by decide +kernel
theorem dX9_round_17 : decode cX9_round 17 = .ok (.getfield 36, 3) := by decide +kernel
theorem dX9_round_20 : decode cX9_round 20 = .ok (.aload_n 0, 1) := by decide +kernel
theorem dX9_round_21 : decode cX9_round 21 = .ok (.getfield 12, 3) := by decide +kernel
theorem dX9_round_24 : decode cX9_round 24 = .ok (.invokevirtual 184, 3) := by decide +kernel
theorem dX9_round_27 : decode cX9_round 27 = .ok (.aload_n 0, 1) := by decide +kernel
theorem dX9_round_28 : decode cX9_round 28 = .ok (.getfield 36, 3) := by decide +kernel
theorem dX9_round_31 : decode cX9_round 31 = .ok (.invokevirtual 187, 3) := by decide +kernel
theorem dX9_round_34 : decode cX9_round 34 = .ok (.ifCond .ne 6, 3) := by decide +kernel
theorem dX9_round_37 : decode cX9_round 37 = .ok (.bipush (-9), 2) := by decide +kernel
theorem dX9_round_39 : decode cX9_round 39 = .ok (.ireturn, 1) := by decide +kernel
theorem dX9_round_40 : decode cX9_round 40 = .ok (.iload_n 1, 1) := by decide +kernel
theorem dX9_round_41 : decode cX9_round 41 = .ok (.tableswitch 51 0 2 #[27, 35, 43], 27) := by decide +kernel
theorem dX9_round_68 : decode cX9_round 68 = .ok (.aload_n 0, 1) := by decide +kernel
theorem dX9_round_69 : decode cX9_round 69 = .ok (.getfield 36, 3) := by decide +kernel
theorem dX9_round_72 : decode cX9_round 72 = .ok (.invokevirtual 191, 3) := by decide +kernel
theorem dX9_round_75 : decode cX9_round 75 = .ok (.ireturn, 1) := by decide +kernel
theorem dX9_round_76 : decode cX9_round 76 = .ok (.aload_n 0, 1) := by decide +kernel
theorem dX9_round_77 : decode cX9_round 77 = .ok (.getfield 36, 3) := by decide +kernel
theorem dX9_round_80 : decode cX9_round 80 = .ok (.getfield 194, 3) := by decide +kernel
theorem dX9_round_83 : decode cX9_round 83 = .ok (.ireturn, 1) := by decide +kernel
theorem dX9_round_84 : decode cX9_round 84 = .ok (.aload_n 0, 1) := by decide +kernel
theorem dX9_round_85 : decode cX9_round 85 = .ok (.getfield 36, 3) := by decide +kernel
theorem dX9_round_88 : decode cX9_round 88 = .ok (.invokevirtual 195, 3) := by decide +kernel
theorem dX9_round_91 : decode cX9_round 91 = .ok (.ireturn, 1) := by decide +kernel
theorem dX9_round_92 : decode cX9_round 92 = .ok (.aload_n 0, 1) := by decide +kernel
theorem dX9_round_93 : decode cX9_round 93 = .ok (.getfield 36, 3) := by decide +kernel
theorem dX9_round_96 : decode cX9_round 96 = .ok (.invokevirtual 198, 3) := by decide +kernel
theorem dX9_round_99 : decode cX9_round 99 = .ok (.ireturn, 1) := by decide +kernel
theorem dX9_step_0 : decode cX9_step 0 = .ok (.aload_n 0, 1) := by decide +kernel
theorem dX9_step_1 : decode cX9_step 1 = .ok (.getfield 36, 3) := by decide +kernel
theorem dX9_step_4 : decode cX9_step 4 = .ok (.aload_n 0, 1) := by decide +kernel
theorem dX9_step_5 : decode cX9_step 5 = .ok (.getfield 12, 3) := by decide +kernel
theorem dX9_step_8 : decode cX9_step 8 = .ok (.invokevirtual 184, 3) := by decide +kernel
theorem dX9_step_11 : decode cX9_step 11 = .ok (.iload_n 1, 1) := by decide +kernel
theorem dX9_step_12 : decode cX9_step 12 = .ok (.ifCond .lt 14, 3) := by decide +kernel
theorem dX9_step_15 : decode cX9_step 15 = .ok (.iload_n 1, 1) := by decide +kernel
theorem dX9_step_16 : decode cX9_step 16 = .ok (.aload_n 0, 1) := by decide +kernel
theorem dX9_step_17 : decode cX9_step 17 = .ok (.getfield 36, 3) := by decide +kernel
theorem dX9_step_20 : decode cX9_step 20 = .ok (.getfield 194, 3) := by decide +kernel
theorem dX9_step_23 : decode cX9_step 23 = .ok (.if_icmp .lt 9, 3) := by decide +kernel
theorem dX9_step_26 : decode cX9_step 26 = .ok (.aload_n 0, 1) := by decide +kernel
theorem dX9_step_27 : decode cX9_step 27 = .ok (.iconst (-1), 1) := by decide +kernel
theorem dX9_step_28 : decode cX9_step 28 = .ok (.invokevirtual 86, 3) := by decide +kernel
theorem dX9_step_31 : decode cX9_step 31 = .ok (.ireturn, 1) := by decide +kernel
theorem dX9_step_32 : decode cX9_step 32 = .ok (.iload_n 2, 1) := by decide +kernel
theorem dX9_step_33 : decode cX9_step 33 = .ok (.tableswitch 120 0 4 #[35, 45, 80, 92, 110], 35) := by decide +kernel
theorem dX9_step_68 : decode cX9_step 68 = .ok (.aload_n 0, 1) := by decide +kernel
theorem dX9_step_69 : decode cX9_step 69 = .ok (.getfield 36, 3) := by decide +kernel
theorem dX9_step_72 : decode cX9_step 72 = .ok (.getfield 201, 3) := by decide +kernel
theorem dX9_step_75 : decode cX9_step 75 = .ok (.iload_n 1, 1) := by decide +kernel
theorem dX9_step_76 : decode cX9_step 76 = .ok (.iaload, 1) := by decide +kernel
theorem dX9_step_77 : decode cX9_step 77 = .ok (.ireturn, 1) := by decide +kernel
theorem dX9_step_78 : decode cX9_step 78 = .ok (.aload_n 0, 1) := by decide +kernel
theorem dX9_step_79 : decode cX9_step 79 = .ok (.getfield 12, 3) := by decide +kernel
theorem dX9_step_82 : decode cX9_step 82 = .ok (.getfield 148, 3) := by decide +kernel
theorem dX9_step_85 : decode cX9_step 85 = .ok (.aload_n 0, 1) := by decide +kernel
theorem dX9_step_86 : decode cX9_step 86 = .ok (.getfield 36, 3) := by decide +kernel
theorem dX9_step_89 : decode cX9_step 89 = .ok (.getfield 201, 3) := by decide +kernel
theorem dX9_step_92 : decode cX9_step 92 = .ok (.iload_n 1, 1) := by decide +kernel
theorem dX9_step_93 : decode cX9_step 93 = .ok (.iaload, 1) := by decide +kernel
theorem dX9_step_94 : decode cX9_step 94 = .ok (.iaload, 1) := by decide +kernel
theorem dX9_step_95 : decode cX9_step 95 = .ok (.aload_n 0, 1) := by decide +kernel
theorem dX9_step_96 : decode cX9_step 96 = .ok (.getfield 36, 3) := by decide +kernel
theorem dX9_step_99 : decode cX9_step 99 = .ok (.getfield 204, 3) := by decide +kernel
theorem dX9_step_102 : decode cX9_step 102 = .ok (.iload_n 1, 1) := by decide +kernel
theorem dX9_step_103 : decode cX9_step 103 = .ok (.iaload, 1) := by decide +kernel
theorem dX9_step_104 : decode cX9_step 104 = .ok (.if_icmp .ne 7, 3) := by decide +kernel
theorem dX9_step_107 : decode cX9_step 107 = .ok (.iconst 0, 1) := by decide +kernel
theorem dX9_step_108 : decode cX9_step 108 = .ok (.goto 4, 3) := by decide +kernel
theorem dX9_step_111 : decode cX9_step 111 = .ok (.iconst 1, 1) := by decide +kernel
theorem dX9_step_112 : decode cX9_step 112 = .ok (.ireturn, 1) := by decide +kernel
theorem dX9_step_113 : decode cX9_step 113 = .ok (.aload_n 0, 1) := by decide +kernel
theorem dX9_step_114 : decode cX9_step 114 = .ok (.getfield 36, 3) := by decide +kernel
theorem dX9_step_117 : decode cX9_step 117 = .ok (.getfield 204, 3) := by decide +kernel
theorem dX9_step_120 : decode cX9_step 120 = .ok (.iload_n 1, 1) := by decide +kernel
theorem dX9_step_121 : decode cX9_step 121 = .ok (.iconst 1, 1) := by decide +kernel
theorem dX9_step_122 : decode cX9_step 122 = .ok (.iadd, 1) := by decide +kernel
theorem dX9_step_123 : decode cX9_step 123 = .ok (.iaload, 1) := by decide +kernel
theorem dX9_step_124 : decode cX9_step 124 = .ok (.ireturn, 1) := by decide +kernel
theorem dX9_step_125 : decode cX9_step 125 = .ok (.aload_n 0, 1) := by decide +kernel
theorem dX9_step_126 : decode cX9_step 126 = .ok (.getfield 36, 3) := by decide +kernel
theorem dX9_step_129 : decode cX9_step 129 = .ok (.getfield 207, 3) := by decide +kernel
theorem dX9_step_132 : decode cX9_step 132 = .ok (.iload_n 1, 1) := by decide +kernel
theorem dX9_step_133 : decode cX9_step 133 = .ok (.baload, 1) := by decide +kernel
theorem dX9_step_134 : decode cX9_step 134 = .ok (.ifCond .eq 7, 3) := by decide +kernel
theorem dX9_step_137 : decode cX9_step 137 = .ok (.iconst 1, 1) := by decide +kernel
theorem dX9_step_138 : decode cX9_step 138 = .ok (.goto 4, 3) := by decide +kernel
theorem dX9_step_141 : decode cX9_step 141 = .ok (.iconst 0, 1) := by decide +kernel
theorem dX9_step_142 : decode cX9_step 142 = .ok (.ireturn, 1) := by decide +kernel
theorem dX9_step_143 : decode cX9_step 143 = .ok (.aload_n 0, 1) := by decide +kernel
theorem dX9_step_144 : decode cX9_step 144 = .ok (.getfield 36, 3) := by decide +kernel
theorem dX9_step_147 : decode cX9_step 147 = .ok (.getfield 211, 3) := by decide +kernel
theorem dX9_step_150 : decode cX9_step 150 = .ok (.iload_n 1, 1) := by decide +kernel
theorem dX9_step_151 : decode cX9_step 151 = .ok (.iaload, 1) := by decide +kernel
theorem dX9_step_152 : decode cX9_step 152 = .ok (.ireturn, 1) := by decide +kernel
theorem dX9_step_153 : decode cX9_step 153 = .ok (.aload_n 0, 1) := by decide +kernel
theorem dX9_step_154 : decode cX9_step 154 = .ok (.bipush (-2), 2) := by decide +kernel
theorem dX9_step_156 : decode cX9_step 156 = .ok (.invokevirtual 86, 3) := by decide +kernel
theorem dX9_step_159 : decode cX9_step 159 = .ok (.ireturn, 1) := by decide +kernel
theorem dX9_time_0 : decode cX9_time 0 = .ok (.aload_n 0, 1) := by decide +kernel
theorem dX9_time_1 : decode cX9_time 1 = .ok (.getfield 36, 3) := by decide +kernel
theorem dX9_time_4 : decode cX9_time 4 = .ok (.aload_n 0, 1) := by decide +kernel
theorem dX9_time_5 : decode cX9_time 5 = .ok (.getfield 12, 3) := by decide +kernel
theorem dX9_time_8 : decode cX9_time 8 = .ok (.invokevirtual 184, 3) := by decide +kernel
theorem dX9_time_11 : decode cX9_time 11 = .ok (.aload_n 0, 1) := by decide +kernel
theorem dX9_time_12 : decode cX9_time 12 = .ok (.getfield 36, 3) := by decide +kernel
theorem dX9_time_15 : decode cX9_time 15 = .ok (.invokevirtual 187, 3) := by decide +kernel
theorem dX9_time_18 : decode cX9_time 18 = .ok (.ifCond .eq 12, 3) := by decide +kernel
theorem dX9_time_21 : decode cX9_time 21 = .ok (.aload_n 0, 1) := by decide +kernel
theorem dX9_time_22 : decode cX9_time 22 = .ok (.iload_n 1, 1) := by decide +kernel
theorem dX9_time_23 : decode cX9_time 23 = .ok (.iload_n 2, 1) := by decide +kernel
theorem dX9_time_24 : decode cX9_time 24 = .ok (.invokevirtual 214, 3) := by decide +kernel
theorem dX9_time_27 : decode cX9_time 27 = .ok (.goto 5, 3) := by decide +kernel
theorem dX9_time_30 : decode cX9_time 30 = .ok (.ldc 217, 2) := by decide +kernel
theorem dX9_time_32 : decode cX9_time 32 = .ok (.ireturn, 1) := by decide +kernel
theorem dX9_rank_0 : decode cX9_rank 0 = .ok (.aload_n 0, 1) := by decide +kernel
theorem dX9_rank_1 : decode cX9_rank 1 = .ok (.getfield 36, 3) := by decide +kernel
theorem dX9_rank_4 : decode cX9_rank 4 = .ok (.aload_n 0, 1) := by decide +kernel
theorem dX9_rank_5 : decode cX9_rank 5 = .ok (.getfield 12, 3) := by decide +kernel
theorem dX9_rank_8 : decode cX9_rank 8 = .ok (.invokevirtual 184, 3) := by decide +kernel
theorem dX9_rank_11 : decode cX9_rank 11 = .ok (.aload_n 0, 1) := by decide +kernel
theorem dX9_rank_12 : decode cX9_rank 12 = .ok (.getfield 36, 3) := by decide +kernel
theorem dX9_rank_15 : decode cX9_rank 15 = .ok (.invokevirtual 187, 3) := by decide +kernel
theorem dX9_rank_18 : decode cX9_rank 18 = .ok (.ifCond .ne 13, 3) := by decide +kernel
theorem dX9_rank_21 : decode cX9_rank 21 = .ok (.ldc 218, 2) := by decide +kernel
theorem dX9_rank_23 : decode cX9_rank 23 = .ok (.aload_n 0, 1) := by decide +kernel
theorem dX9_rank_24 : decode cX9_rank 24 = .ok (.bipush (-3), 2) := by decide +kernel
theorem dX9_rank_26 : decode cX9_rank 26 = .ok (.invokevirtual 86, 3) := by decide +kernel
theorem dX9_rank_29 : decode cX9_rank 29 = .ok (.iadd, 1) := by decide +kernel
theorem dX9_rank_30 : decode cX9_rank 30 = .ok (.ireturn, 1) := by decide +kernel
theorem dX9_rank_31 : decode cX9_rank 31 = .ok (.aload_n 0, 1) := by decide +kernel
theorem dX9_rank_32 : decode cX9_rank 32 = .ok (.iload_n 1, 1) := by decide +kernel
theorem dX9_rank_33 : decode cX9_rank 33 = .ok (.iload_n 2, 1) := by decide +kernel
theorem dX9_rank_34 : decode cX9_rank 34 = .ok (.invokevirtual 214, 3) := by decide +kernel
theorem dX9_rank_37 : decode cX9_rank 37 = .ok (.invokestatic 219, 3) := by decide +kernel
theorem dX9_rank_40 : decode cX9_rank 40 = .ok (.aload_n 0, 1) := by decide +kernel
theorem dX9_rank_41 : decode cX9_rank 41 = .ok (.iload_n 3, 1) := by decide +kernel
theorem dX9_rank_42 : decode cX9_rank 42 = .ok (.iload 4, 2) := by decide +kernel
theorem dX9_rank_44 : decode cX9_rank 44 = .ok (.invokevirtual 214, 3) := by decide +kernel
theorem dX9_rank_47 : decode cX9_rank 47 = .ok (.invokestatic 219, 3) := by decide +kernel
theorem dX9_rank_50 : decode cX9_rank 50 = .ok (.invokestatic 222, 3) := by decide +kernel
theorem dX9_rank_53 : decode cX9_rank 53 = .ok (.ireturn, 1) := by decide +kernel
theorem dX9_bitsOfTime_0 : decode cX9_bitsOfTime 0 = .ok (.aload_n 0, 1) := by decide +kernel
theorem dX9_bitsOfTime_1 : decode cX9_bitsOfTime 1 = .ok (.getfield 36, 3) := by decide +kernel
theorem dX9_bitsOfTime_4 : decode cX9_bitsOfTime 4 = .ok (.getfield 194, 3) := by decide +kernel
theorem dX9_bitsOfTime_7 : decode cX9_bitsOfTime 7 = .ok (.ifCond .ne 5, 3) := by decide +kernel
theorem dX9_bitsOfTime_10 : decode cX9_bitsOfTime 10 = .ok (.iconst 0, 1) := by decide +kernel
theorem dX9_bitsOfTime_11 : decode cX9_bitsOfTime 11 = .ok (.ireturn, 1) := by decide +kernel
theorem dX9_bitsOfTime_12 : decode cX9_bitsOfTime 12 = .ok (.iload_n 2, 1) := by decide +kernel
theorem dX9_bitsOfTime_13 : decode cX9_bitsOfTime 13 = .ok (.ifCond .ne 14, 3) := by decide +kernel
theorem dX9_bitsOfTime_16 : decode cX9_bitsOfTime 16 = .ok (.iload_n 1, 1) := by decide +kernel
theorem dX9_bitsOfTime_17 : decode cX9_bitsOfTime 17 = .ok (.ifCond .ne 8, 3) := by decide +kernel
theorem dX9_bitsOfTime_20 : decode cX9_bitsOfTime 20 = .ok (.ldc 227, 2) := by decide +kernel
theorem dX9_bitsOfTime_22 : decode cX9_bitsOfTime 22 = .ok (.goto 4, 3) := by decide +kernel
theorem dX9_bitsOfTime_25 : decode cX9_bitsOfTime 25 = .ok (.iconst 0, 1) := by decide +kernel
theorem dX9_bitsOfTime_26 : decode cX9_bitsOfTime 26 = .ok (.ireturn, 1) := by decide +kernel
theorem dX9_bitsOfTime_27 : decode cX9_bitsOfTime 27 = .ok (.iload_n 1, 1) := by decide +kernel
theorem dX9_bitsOfTime_28 : decode cX9_bitsOfTime 28 = .ok (.ifCond .ne 15, 3) := by decide +kernel
theorem dX9_bitsOfTime_31 : decode cX9_bitsOfTime 31 = .ok (.iload_n 2, 1) := by decide +kernel
theorem dX9_bitsOfTime_32 : decode cX9_bitsOfTime 32 = .ok (.ifCond .le 8, 3) := by decide +kernel
theorem dX9_bitsOfTime_35 : decode cX9_bitsOfTime 35 = .ok (.ldc 228, 2) := by decide +kernel
theorem dX9_bitsOfTime_37 : decode cX9_bitsOfTime 37 = .ok (.goto 5, 3) := by decide +kernel
theorem dX9_bitsOfTime_40 : decode cX9_bitsOfTime 40 = .ok (.ldc 229, 2) := by decide +kernel
theorem dX9_bitsOfTime_42 : decode cX9_bitsOfTime 42 = .ok (.ireturn, 1) := by decide +kernel
theorem dX9_bitsOfTime_43 : decode cX9_bitsOfTime 43 = .ok (.iload_n 1, 1) := by decide +kernel
theorem dX9_bitsOfTime_44 : decode cX9_bitsOfTime 44 = .ok (.i2f, 1) := by decide +kernel
theorem dX9_bitsOfTime_45 : decode cX9_bitsOfTime 45 = .ok (.iload_n 2, 1) := by decide +kernel
theorem dX9_bitsOfTime_46 : decode cX9_bitsOfTime 46 = .ok (.i2f, 1) := by decide +kernel
theorem dX9_bitsOfTime_47 : decode cX9_bitsOfTime 47 = .ok (.fdiv, 1) := by decide +kernel
theorem dX9_bitsOfTime_48 : decode cX9_bitsOfTime 48 = .ok (.fstore_n 3, 1) := by decide +kernel
theorem dX9_bitsOfTime_49 : decode cX9_bitsOfTime 49 = .ok (.fconst 0, 1) := by decide +kernel
theorem dX9_bitsOfTime_50 : decode cX9_bitsOfTime 50 = .ok (.fstore 4, 2) := by decide +kernel
theorem dX9_bitsOfTime_52 : decode cX9_bitsOfTime 52 = .ok (.iconst 0, 1) := by decide +kernel
theorem dX9_bitsOfTime_53 : decode cX9_bitsOfTime 53 = .ok (.istore 5, 2) := by decide +kernel
theorem dX9_bitsOfTime_55 : decode cX9_bitsOfTime 55 = .ok (.iload 5, 2) := by decide +kernel
theorem dX9_bitsOfTime_57 : decode cX9_bitsOfTime 57 = .ok (.aload_n 0, 1) := by decide +kernel
theorem dX9_bitsOfTime_58 : decode cX9_bitsOfTime 58 = .ok (.getfield 36, 3) := by decide +kernel
theorem dX9_bitsOfTime_61 : decode cX9_bitsOfTime 61 = .ok (.getfield 194, 3) := by decide +kernel
theorem dX9_bitsOfTime_64 : decode cX9_bitsOfTime 64 = .ok (.if_icmp .ge 27, 3) := by decide +kernel
theorem dX9_bitsOfTime_67 : decode cX9_bitsOfTime 67 = .ok (.fload 4, 2) := by decide +kernel
theorem dX9_bitsOfTime_69 : decode cX9_bitsOfTime 69 = .ok (.aload_n 0, 1) := by decide +kernel
theorem dX9_bitsOfTime_70 : decode cX9_bitsOfTime 70 = .ok (.getfield 36, 3) := by decide +kernel
theorem dX9_bitsOfTime_73 : decode cX9_bitsOfTime 73 = .ok (.getfield 211, 3) := by decide +kernel
theorem dX9_bitsOfTime_76 : decode cX9_bitsOfTime 76 = .ok (.iload 5, 2) := by decide +kernel
theorem dX9_bitsOfTime_78 : decode cX9_bitsOfTime 78 = .ok (.iaload, 1) := by decide +kernel
theorem dX9_bitsOfTime_79 : decode cX9_bitsOfTime 79 = .ok (.i2f, 1) := by decide +kernel
theorem dX9_bitsOfTime_80 : decode cX9_bitsOfTime 80 = .ok (.fload_n 3, 1) := by decide +kernel
theorem dX9_bitsOfTime_81 : decode cX9_bitsOfTime 81 = .ok (.fdiv, 1) := by decide +kernel
theorem dX9_bitsOfTime_82 : decode cX9_bitsOfTime 82 = .ok (.fadd, 1) := by decide +kernel
theorem dX9_bitsOfTime_83 : decode cX9_bitsOfTime 83 = .ok (.fstore 4, 2) := by decide +kernel
theorem dX9_bitsOfTime_85 : decode cX9_bitsOfTime 85 = .ok (.iinc 5 1, 3) := by decide +kernel
theorem dX9_bitsOfTime_88 : decode cX9_bitsOfTime 88 = .ok (.goto (-33), 3) := by decide +kernel
theorem dX9_bitsOfTime_91 : decode cX9_bitsOfTime 91 = .ok (.fload 4, 2) := by decide +kernel
theorem dX9_bitsOfTime_93 : decode cX9_bitsOfTime 93 = .ok (.invokestatic 230, 3) := by decide +kernel
theorem dX9_bitsOfTime_96 : decode cX9_bitsOfTime 96 = .ok (.ireturn, 1) := by decide +kernel
theorem dX9_inOrder_0 : decode cX9_inOrder 0 = .ok (.iload_n 0, 1) := by decide +kernel
theorem dX9_inOrder_1 : decode cX9_inOrder 1 = .ok (.ifCond .lt 7, 3) := by decide +kernel
theorem dX9_inOrder_4 : decode cX9_inOrder 4 = .ok (.iload_n 0, 1) := by decide +kernel
theorem dX9_inOrder_5 : decode cX9_inOrder 5 = .ok (.goto 7, 3) := by decide +kernel
theorem dX9_inOrder_8 : decode cX9_inOrder 8 = .ok (.iload_n 0, 1) := by decide +kernel
theorem dX9_inOrder_9 : decode cX9_inOrder 9 = .ok (.ldc 234, 2) := by decide +kernel
theorem dX9_inOrder_11 : decode cX9_inOrder 11 = .ok (.ixor, 1) := by decide +kernel
theorem dX9_inOrder_12 : decode cX9_inOrder 12 = .ok (.ireturn, 1) := by decide +kernel
theorem dX9_bitsOfFloat_0 : decode cX9_bitsOfFloat 0 = .ok (.fload_n 0, 1) := by decide +kernel
theorem dX9_bitsOfFloat_1 : decode cX9_bitsOfFloat 1 = .ok (.fconst 0, 1) := by decide +kernel
theorem dX9_bitsOfFloat_2 : decode cX9_bitsOfFloat 2 = .ok (.fcmp .g, 1) := by decide +kernel
theorem dX9_bitsOfFloat_3 : decode cX9_bitsOfFloat 3 = .ok (.ifCond .ge 8, 3) := by decide +kernel
theorem dX9_bitsOfFloat_6 : decode cX9_bitsOfFloat 6 = .ok (.fload_n 0, 1) := by decide +kernel
theorem dX9_bitsOfFloat_7 : decode cX9_bitsOfFloat 7 = .ok (.fneg, 1) := by decide +kernel
theorem dX9_bitsOfFloat_8 : decode cX9_bitsOfFloat 8 = .ok (.goto 4, 3) := by decide +kernel
theorem dX9_bitsOfFloat_11 : decode cX9_bitsOfFloat 11 = .ok (.fload_n 0, 1) := by decide +kernel
theorem dX9_bitsOfFloat_12 : decode cX9_bitsOfFloat 12 = .ok (.fstore_n 1, 1) := by decide +kernel
theorem dX9_bitsOfFloat_13 : decode cX9_bitsOfFloat 13 = .ok (.sipush 150, 3) := by decide +kernel
theorem dX9_bitsOfFloat_16 : decode cX9_bitsOfFloat 16 = .ok (.istore_n 2, 1) := by decide +kernel
theorem dX9_bitsOfFloat_17 : decode cX9_bitsOfFloat 17 = .ok (.iconst 0, 1) := by decide +kernel
theorem dX9_bitsOfFloat_18 : decode cX9_bitsOfFloat 18 = .ok (.istore_n 3, 1) := by decide +kernel
theorem dX9_bitsOfFloat_19 : decode cX9_bitsOfFloat 19 = .ok (.iload_n 3, 1) := by decide +kernel
theorem dX9_bitsOfFloat_20 : decode cX9_bitsOfFloat 20 = .ok (.sipush 200, 3) := by decide +kernel
theorem dX9_bitsOfFloat_23 : decode cX9_bitsOfFloat 23 = .ok (.if_icmp .ge 23, 3) := by decide +kernel
theorem dX9_bitsOfFloat_26 : decode cX9_bitsOfFloat 26 = .ok (.fload_n 1, 1) := by decide +kernel
theorem dX9_bitsOfFloat_27 : decode cX9_bitsOfFloat 27 = .ok (.ldc 235, 2) := by decide +kernel
theorem dX9_bitsOfFloat_29 : decode cX9_bitsOfFloat 29 = .ok (.fcmp .g, 1) := by decide +kernel
theorem dX9_bitsOfFloat_30 : decode cX9_bitsOfFloat 30 = .ok (.ifCond .ge 16, 3) := by decide +kernel
theorem dX9_bitsOfFloat_33 : decode cX9_bitsOfFloat 33 = .ok (.fload_n 1, 1) := by decide +kernel
theorem dX9_bitsOfFloat_34 : decode cX9_bitsOfFloat 34 = .ok (.fconst 2, 1) := by decide +kernel
theorem dX9_bitsOfFloat_35 : decode cX9_bitsOfFloat 35 = .ok (.fmul, 1) := by decide +kernel
theorem dX9_bitsOfFloat_36 : decode cX9_bitsOfFloat 36 = .ok (.fstore_n 1, 1) := by decide +kernel
theorem dX9_bitsOfFloat_37 : decode cX9_bitsOfFloat 37 = .ok (.iinc 2 (-1), 3) := by decide +kernel
theorem dX9_bitsOfFloat_40 : decode cX9_bitsOfFloat 40 = .ok (.iinc 3 1, 3) := by decide +kernel
theorem dX9_bitsOfFloat_43 : decode cX9_bitsOfFloat 43 = .ok (.goto (-24), 3) := by decide +kernel
theorem dX9_bitsOfFloat_46 : decode cX9_bitsOfFloat 46 = .ok (.iconst 0, 1) := by decide +kernel
theorem dX9_bitsOfFloat_47 : decode cX9_bitsOfFloat 47 = .ok (.istore_n 3, 1) := by decide +kernel
theorem dX9_bitsOfFloat_48 : decode cX9_bitsOfFloat 48 = .ok (.iload_n 3, 1) := by decide +kernel
theorem dX9_bitsOfFloat_49 : decode cX9_bitsOfFloat 49 = .ok (.sipush 200, 3) := by decide +kernel
theorem dX9_bitsOfFloat_52 : decode cX9_bitsOfFloat 52 = .ok (.if_icmp .ge 23, 3) := by decide +kernel
theorem dX9_bitsOfFloat_55 : decode cX9_bitsOfFloat 55 = .ok (.fload_n 1, 1) := by decide +kernel
theorem dX9_bitsOfFloat_56 : decode cX9_bitsOfFloat 56 = .ok (.ldc 236, 2) := by decide +kernel
theorem dX9_bitsOfFloat_58 : decode cX9_bitsOfFloat 58 = .ok (.fcmp .l, 1) := by decide +kernel
theorem dX9_bitsOfFloat_59 : decode cX9_bitsOfFloat 59 = .ok (.ifCond .lt 16, 3) := by decide +kernel
theorem dX9_bitsOfFloat_62 : decode cX9_bitsOfFloat 62 = .ok (.fload_n 1, 1) := by decide +kernel
theorem dX9_bitsOfFloat_63 : decode cX9_bitsOfFloat 63 = .ok (.fconst 2, 1) := by decide +kernel
theorem dX9_bitsOfFloat_64 : decode cX9_bitsOfFloat 64 = .ok (.fdiv, 1) := by decide +kernel
theorem dX9_bitsOfFloat_65 : decode cX9_bitsOfFloat 65 = .ok (.fstore_n 1, 1) := by decide +kernel
theorem dX9_bitsOfFloat_66 : decode cX9_bitsOfFloat 66 = .ok (.iinc 2 1, 3) := by decide +kernel
theorem dX9_bitsOfFloat_69 : decode cX9_bitsOfFloat 69 = .ok (.iinc 3 1, 3) := by decide +kernel
theorem dX9_bitsOfFloat_72 : decode cX9_bitsOfFloat 72 = .ok (.goto (-24), 3) := by decide +kernel
theorem dX9_bitsOfFloat_75 : decode cX9_bitsOfFloat 75 = .ok (.iload_n 2, 1) := by decide +kernel
theorem dX9_bitsOfFloat_76 : decode cX9_bitsOfFloat 76 = .ok (.bipush 23, 2) := by decide +kernel
theorem dX9_bitsOfFloat_78 : decode cX9_bitsOfFloat 78 = .ok (.ishl, 1) := by decide +kernel
theorem dX9_bitsOfFloat_79 : decode cX9_bitsOfFloat 79 = .ok (.fload_n 1, 1) := by decide +kernel
theorem dX9_bitsOfFloat_80 : decode cX9_bitsOfFloat 80 = .ok (.f2i, 1) := by decide +kernel
theorem dX9_bitsOfFloat_81 : decode cX9_bitsOfFloat 81 = .ok (.ldc 237, 2) := by decide +kernel
theorem dX9_bitsOfFloat_83 : decode cX9_bitsOfFloat 83 = .ok (.iand, 1) := by decide +kernel
theorem dX9_bitsOfFloat_84 : decode cX9_bitsOfFloat 84 = .ok (.ior, 1) := by decide +kernel
theorem dX9_bitsOfFloat_85 : decode cX9_bitsOfFloat 85 = .ok (.istore_n 3, 1) := by decide +kernel
theorem dX9_bitsOfFloat_86 : decode cX9_bitsOfFloat 86 = .ok (.fload_n 0, 1) := by decide +kernel
theorem dX9_bitsOfFloat_87 : decode cX9_bitsOfFloat 87 = .ok (.fconst 0, 1) := by decide +kernel
theorem dX9_bitsOfFloat_88 : decode cX9_bitsOfFloat 88 = .ok (.fcmp .g, 1) := by decide +kernel
theorem dX9_bitsOfFloat_89 : decode cX9_bitsOfFloat 89 = .ok (.ifCond .ge 10, 3) := by decide +kernel
theorem dX9_bitsOfFloat_92 : decode cX9_bitsOfFloat 92 = .ok (.iload_n 3, 1) := by decide +kernel
theorem dX9_bitsOfFloat_93 : decode cX9_bitsOfFloat 93 = .ok (.ldc 238, 2) := by decide +kernel
theorem dX9_bitsOfFloat_95 : decode cX9_bitsOfFloat 95 = .ok (.ior, 1) := by decide +kernel
theorem dX9_bitsOfFloat_96 : decode cX9_bitsOfFloat 96 = .ok (.goto 4, 3) := by decide +kernel
theorem dX9_bitsOfFloat_99 : decode cX9_bitsOfFloat 99 = .ok (.iload_n 3, 1) := by decide +kernel
theorem dX9_bitsOfFloat_100 : decode cX9_bitsOfFloat 100 = .ok (.ireturn, 1) := by decide +kernel
theorem dX9_mean_0 : decode cX9_mean 0 = .ok (.dconst 0, 1) := by decide +kernel
theorem dX9_mean_1 : decode cX9_mean 1 = .ok (.dstore_n 1, 1) := by decide +kernel
theorem dX9_mean_2 : decode cX9_mean 2 = .ok (.iconst 0, 1) := by decide +kernel
theorem dX9_mean_3 : decode cX9_mean 3 = .ok (.istore_n 3, 1) := by decide +kernel
theorem dX9_mean_4 : decode cX9_mean 4 = .ok (.iconst 0, 1) := by decide +kernel
theorem dX9_mean_5 : decode cX9_mean 5 = .ok (.istore 4, 2) := by decide +kernel
theorem dX9_mean_7 : decode cX9_mean 7 = .ok (.iload 4, 2) := by decide +kernel
theorem dX9_mean_9 : decode cX9_mean 9 = .ok (.aload_n 0, 1) := by decide +kernel
theorem dX9_mean_10 : decode cX9_mean 10 = .ok (.getfield 12, 3) := by decide +kernel
theorem dX9_mean_13 : decode cX9_mean 13 = .ok (.getfield 122, 3) := by decide +kernel
theorem dX9_mean_16 : decode cX9_mean 16 = .ok (.if_icmp .ge 38, 3) := by decide +kernel
theorem dX9_mean_19 : decode cX9_mean 19 = .ok (.aload_n 0, 1) := by decide +kernel
theorem dX9_mean_20 : decode cX9_mean 20 = .ok (.getfield 12, 3) := by decide +kernel
theorem dX9_mean_23 : decode cX9_mean 23 = .ok (.iload 4, 2) := by decide +kernel
theorem dX9_mean_25 : decode cX9_mean 25 = .ok (.invokevirtual 133, 3) := by decide +kernel
theorem dX9_mean_28 : decode cX9_mean 28 = .ok (.ifCond .eq 20, 3) := by decide +kernel
theorem dX9_mean_31 : decode cX9_mean 31 = .ok (.dload_n 1, 1) := by decide +kernel
theorem dX9_mean_32 : decode cX9_mean 32 = .ok (.aload_n 0, 1) := by decide +kernel
theorem dX9_mean_33 : decode cX9_mean 33 = .ok (.getfield 12, 3) := by decide +kernel
theorem dX9_mean_36 : decode cX9_mean 36 = .ok (.getfield 136, 3) := by decide +kernel
theorem dX9_mean_39 : decode cX9_mean 39 = .ok (.iload 4, 2) := by decide +kernel
theorem dX9_mean_41 : decode cX9_mean 41 = .ok (.iaload, 1) := by decide +kernel
theorem dX9_mean_42 : decode cX9_mean 42 = .ok (.i2d, 1) := by decide +kernel
theorem dX9_mean_43 : decode cX9_mean 43 = .ok (.dadd, 1) := by decide +kernel
theorem dX9_mean_44 : decode cX9_mean 44 = .ok (.dstore_n 1, 1) := by decide +kernel
theorem dX9_mean_45 : decode cX9_mean 45 = .ok (.iinc 3 1, 3) := by decide +kernel
theorem dX9_mean_48 : decode cX9_mean 48 = .ok (.iinc 4 1, 3) := by decide +kernel
theorem dX9_mean_51 : decode cX9_mean 51 = .ok (.goto (-44), 3) := by decide +kernel
theorem dX9_mean_54 : decode cX9_mean 54 = .ok (.iload_n 3, 1) := by decide +kernel
theorem dX9_mean_55 : decode cX9_mean 55 = .ok (.ifCond .ne 7, 3) := by decide +kernel
theorem dX9_mean_58 : decode cX9_mean 58 = .ok (.lconst 0, 1) := by decide +kernel
theorem dX9_mean_59 : decode cX9_mean 59 = .ok (.goto 10, 3) := by decide +kernel
theorem dX9_mean_62 : decode cX9_mean 62 = .ok (.dload_n 1, 1) := by decide +kernel
theorem dX9_mean_63 : decode cX9_mean 63 = .ok (.iload_n 3, 1) := by decide +kernel
theorem dX9_mean_64 : decode cX9_mean 64 = .ok (.i2d, 1) := by decide +kernel
theorem dX9_mean_65 : decode cX9_mean 65 = .ok (.ddiv, 1) := by decide +kernel
theorem dX9_mean_66 : decode cX9_mean 66 = .ok (.invokestatic 239, 3) := by decide +kernel
theorem dX9_mean_69 : decode cX9_mean 69 = .ok (.lreturn, 1) := by decide +kernel
theorem dX9_bitsOfDouble_0 : decode cX9_bitsOfDouble 0 = .ok (.dload_n 0, 1) := by decide +kernel
theorem dX9_bitsOfDouble_1 : decode cX9_bitsOfDouble 1 = .ok (.dstore_n 2, 1) := by decide +kernel
theorem dX9_bitsOfDouble_2 : decode cX9_bitsOfDouble 2 = .ok (.ldc2_w 243, 3) := by decide +kernel
theorem dX9_bitsOfDouble_5 : decode cX9_bitsOfDouble 5 = .ok (.lstore 4, 2) := by decide +kernel
theorem dX9_bitsOfDouble_7 : decode cX9_bitsOfDouble 7 = .ok (.iconst 0, 1) := by decide +kernel
theorem dX9_bitsOfDouble_8 : decode cX9_bitsOfDouble 8 = .ok (.istore 6, 2) := by decide +kernel
theorem dX9_bitsOfDouble_10 : decode cX9_bitsOfDouble 10 = .ok (.iload 6, 2) := by decide +kernel
theorem dX9_bitsOfDouble_12 : decode cX9_bitsOfDouble 12 = .ok (.bipush 100, 2) := by decide +kernel
theorem dX9_bitsOfDouble_14 : decode cX9_bitsOfDouble 14 = .ok (.if_icmp .ge 29, 3) := by decide +kernel
theorem dX9_bitsOfDouble_17 : decode cX9_bitsOfDouble 17 = .ok (.dload_n 2, 1) := by decide +kernel
theorem dX9_bitsOfDouble_18 : decode cX9_bitsOfDouble 18 = .ok (.ldc2_w 245, 3) := by decide +kernel
theorem dX9_bitsOfDouble_21 : decode cX9_bitsOfDouble 21 = .ok (.dcmp .g, 1) := by decide +kernel
theorem dX9_bitsOfDouble_22 : decode cX9_bitsOfDouble 22 = .ok (.ifCond .ge 21, 3) := by decide +kernel
theorem dX9_bitsOfDouble_25 : decode cX9_bitsOfDouble 25 = .ok (.dload_n 2, 1) := by decide +kernel
theorem dX9_bitsOfDouble_26 : decode cX9_bitsOfDouble 26 = .ok (.ldc2_w 247, 3) := by decide +kernel
theorem dX9_bitsOfDouble_29 : decode cX9_bitsOfDouble 29 = .ok (.dmul, 1) := by decide +kernel
theorem dX9_bitsOfDouble_30 : decode cX9_bitsOfDouble 30 = .ok (.dstore_n 2, 1) := by decide +kernel
theorem dX9_bitsOfDouble_31 : decode cX9_bitsOfDouble 31 = .ok (.lload 4, 2) := by decide +kernel
theorem dX9_bitsOfDouble_33 : decode cX9_bitsOfDouble 33 = .ok (.lconst 1, 1) := by decide +kernel
theorem dX9_bitsOfDouble_34 : decode cX9_bitsOfDouble 34 = .ok (.lsub, 1) := by decide +kernel
theorem dX9_bitsOfDouble_35 : decode cX9_bitsOfDouble 35 = .ok (.lstore 4, 2) := by decide +kernel
theorem dX9_bitsOfDouble_37 : decode cX9_bitsOfDouble 37 = .ok (.iinc 6 1, 3) := by decide +kernel
theorem dX9_bitsOfDouble_40 : decode cX9_bitsOfDouble 40 = .ok (.goto (-30), 3) := by decide +kernel
theorem dX9_bitsOfDouble_43 : decode cX9_bitsOfDouble 43 = .ok (.lload 4, 2) := by decide +kernel
theorem dX9_bitsOfDouble_45 : decode cX9_bitsOfDouble 45 = .ok (.bipush 52, 2) := by decide +kernel
theorem dX9_bitsOfDouble_47 : decode cX9_bitsOfDouble 47 = .ok (.lshl, 1) := by decide +kernel
theorem dX9_bitsOfDouble_48 : decode cX9_bitsOfDouble 48 = .ok (.dload_n 2, 1) := by decide +kernel
theorem dX9_bitsOfDouble_49 : decode cX9_bitsOfDouble 49 = .ok (.d2l, 1) := by decide +kernel
theorem dX9_bitsOfDouble_50 : decode cX9_bitsOfDouble 50 = .ok (.ldc2_w 249, 3) := by decide +kernel
theorem dX9_bitsOfDouble_53 : decode cX9_bitsOfDouble 53 = .ok (.land, 1) := by decide +kernel
theorem dX9_bitsOfDouble_54 : decode cX9_bitsOfDouble 54 = .ok (.lor, 1) := by decide +kernel
theorem dX9_bitsOfDouble_55 : decode cX9_bitsOfDouble 55 = .ok (.lreturn, 1) := by decide +kernel
theorem dX9_odd_0 : decode cX9_odd 0 = .ok (.aload_n 0, 1) := by decide +kernel
theorem dX9_odd_1 : decode cX9_odd 1 = .ok (.getfield 12, 3) := by decide +kernel
theorem dX9_odd_4 : decode cX9_odd 4 = .ok (.invokevirtual 251, 3) := by decide +kernel
theorem dX9_odd_7 : decode cX9_odd 7 = .ok (.ireturn, 1) := by decide +kernel
theorem dX9_matched_0 : decode cX9_matched 0 = .ok (.iload_n 1, 1) := by decide +kernel
theorem dX9_matched_1 : decode cX9_matched 1 = .ok (.invokestatic 118, 3) := by decide +kernel
theorem dX9_matched_4 : decode cX9_matched 4 = .ok (.ifCond .ne 9, 3) := by decide +kernel
theorem dX9_matched_7 : decode cX9_matched 7 = .ok (.aload_n 0, 1) := by decide +kernel
theorem dX9_matched_8 : decode cX9_matched 8 = .ok (.iconst (-1), 1) := by decide +kernel
theorem dX9_matched_9 : decode cX9_matched 9 = .ok (.invokevirtual 86, 3) := by decide +kernel
theorem dX9_matched_12 : decode cX9_matched 12 = .ok (.ireturn, 1) := by decide +kernel
theorem dX9_matched_13 : decode cX9_matched 13 = .ok (.aload_n 0, 1) := by decide +kernel
theorem dX9_matched_14 : decode cX9_matched 14 = .ok (.invokevirtual 254, 3) := by decide +kernel
theorem dX9_matched_17 : decode cX9_matched 17 = .ok (.aload_n 0, 1) := by decide +kernel
theorem dX9_matched_18 : decode cX9_matched 18 = .ok (.getfield 43, 3) := by decide +kernel
theorem dX9_matched_21 : decode cX9_matched 21 = .ok (.iload_n 1, 1) := by decide +kernel
theorem dX9_matched_22 : decode cX9_matched 22 = .ok (.invokevirtual 257, 3) := by decide +kernel
theorem dX9_matched_25 : decode cX9_matched 25 = .ok (.ireturn, 1) := by decide +kernel
theorem dX9_matching_0 : decode cX9_matching 0 = .ok (.aload_n 0, 1) := by decide +kernel
theorem dX9_matching_1 : decode cX9_matching 1 = .ok (.invokevirtual 254, 3) := by decide +kernel
theorem dX9_matching_4 : decode cX9_matching 4 = .ok (.aload_n 0, 1) := by decide +kernel
theorem dX9_matching_5 : decode cX9_matching 5 = .ok (.getfield 43, 3) := by decide +kernel
theorem dX9_matching_8 : decode cX9_matching 8 = .ok (.getfield 260, 3) := by decide +kernel
theorem dX9_matching_11 : decode cX9_matching 11 = .ok (.invokestatic 157, 3) := by decide +kernel
theorem dX9_matching_14 : decode cX9_matching 14 = .ok (.ireturn, 1) := by decide +kernel
theorem dX9_seekPairs_0 : decode cX9_seekPairs 0 = .ok (.aload_n 0, 1) := by decide +kernel
theorem dX9_seekPairs_1 : decode cX9_seekPairs 1 = .ok (.getfield 29, 3) := by decide +kernel
theorem dX9_seekPairs_4 : decode cX9_seekPairs 4 = .ok (.aload_n 0, 1) := by decide +kernel
theorem dX9_seekPairs_5 : decode cX9_seekPairs 5 = .ok (.getfield 12, 3) := by decide +kernel
theorem dX9_seekPairs_8 : decode cX9_seekPairs 8 = .ok (.iconst 0, 1) := by decide +kernel
theorem dX9_seekPairs_9 : decode cX9_seekPairs 9 = .ok (.invokevirtual 172, 3) := by decide +kernel
theorem dX9_seekPairs_12 : decode cX9_seekPairs 12 = .ok (.aload_n 0, 1) := by decide +kernel
theorem dX9_seekPairs_13 : decode cX9_seekPairs 13 = .ok (.getfield 43, 3) := by decide +kernel
theorem dX9_seekPairs_16 : decode cX9_seekPairs 16 = .ok (.aload_n 0, 1) := by decide +kernel
theorem dX9_seekPairs_17 : decode cX9_seekPairs 17 = .ok (.getfield 29, 3) := by decide +kernel
theorem dX9_seekPairs_20 : decode cX9_seekPairs 20 = .ok (.aload_n 0, 1) := by decide +kernel
theorem dX9_seekPairs_21 : decode cX9_seekPairs 21 = .ok (.getfield 12, 3) := by decide +kernel
theorem dX9_seekPairs_24 : decode cX9_seekPairs 24 = .ok (.invokevirtual 251, 3) := by decide +kernel
theorem dX9_seekPairs_27 : decode cX9_seekPairs 27 = .ok (.invokevirtual 263, 3) := by decide +kernel
theorem dX9_seekPairs_30 : decode cX9_seekPairs 30 = .ok (.return_, 1) := by decide +kernel
theorem dX9_spliced_0 : decode cX9_spliced 0 = .ok (.iload_n 1, 1) := by decide +kernel
theorem dX9_spliced_1 : decode cX9_spliced 1 = .ok (.iconst (-1), 1) := by decide +kernel
theorem dX9_spliced_2 : decode cX9_spliced 2 = .ok (.if_icmp .ge 10, 3) := by decide +kernel
theorem dX9_spliced_5 : decode cX9_spliced 5 = .ok (.aload_n 0, 1) := by decide +kernel
theorem dX9_spliced_6 : decode cX9_spliced 6 = .ok (.bipush (-4), 2) := by decide +kernel
theorem dX9_spliced_8 : decode cX9_spliced 8 = .ok (.invokevirtual 86, 3) := by decide +kernel
theorem dX9_spliced_11 : decode cX9_spliced 11 = .ok (.ireturn, 1) := by decide +kernel
theorem dX9_spliced_12 : decode cX9_spliced 12 = .ok (.aload_n 0, 1) := by decide +kernel
theorem dX9_spliced_13 : decode cX9_spliced 13 = .ok (.invokevirtual 254, 3) := by decide +kernel
theorem dX9_spliced_16 : decode cX9_spliced 16 = .ok (.aload_n 0, 1) := by decide +kernel
theorem dX9_spliced_17 : decode cX9_spliced 17 = .ok (.getfield 43, 3) := by decide +kernel
theorem dX9_spliced_20 : decode cX9_spliced 20 = .ok (.getfield 260, 3) := by decide +kernel
theorem dX9_spliced_23 : decode cX9_spliced 23 = .ok (.ldc 180, 2) := by decide +kernel
theorem dX9_spliced_25 : decode cX9_spliced 25 = .ok (.if_icmp .lt 6, 3) := by decide +kernel
theorem dX9_spliced_28 : decode cX9_spliced 28 = .ok (.bipush (-9), 2) := by decide +kernel
theorem dX9_spliced_30 : decode cX9_spliced 30 = .ok (.ireturn, 1) := by decide +kernel
theorem dX9_spliced_31 : decode cX9_spliced 31 = .ok (.aload_n 0, 1) := by decide +kernel
theorem dX9_spliced_32 : decode cX9_spliced 32 = .ok (.getfield 50, 3) := by decide +kernel
theorem dX9_spliced_35 : decode cX9_spliced 35 = .ok (.aload_n 0, 1) := by decide +kernel
theorem dX9_spliced_36 : decode cX9_spliced 36 = .ok (.getfield 29, 3) := by decide +kernel
theorem dX9_spliced_39 : decode cX9_spliced 39 = .ok (.aload_n 0, 1) := by decide +kernel
theorem dX9_spliced_40 : decode cX9_spliced 40 = .ok (.getfield 43, 3) := by decide +kernel
theorem dX9_spliced_43 : decode cX9_spliced 43 = .ok (.invokevirtual 266, 3) := by decide +kernel
theorem dX9_spliced_46 : decode cX9_spliced 46 = .ok (.iload_n 1, 1) := by decide +kernel
theorem dX9_spliced_47 : decode cX9_spliced 47 = .ok (.iconst (-1), 1) := by decide +kernel
theorem dX9_spliced_48 : decode cX9_spliced 48 = .ok (.if_icmp .ne 11, 3) := by decide +kernel
theorem dX9_spliced_51 : decode cX9_spliced 51 = .ok (.aload_n 0, 1) := by decide +kernel
theorem dX9_spliced_52 : decode cX9_spliced 52 = .ok (.getfield 50, 3) := by decide +kernel
theorem dX9_spliced_55 : decode cX9_spliced 55 = .ok (.getfield 269, 3) := by decide +kernel
theorem dX9_spliced_58 : decode cX9_spliced 58 = .ok (.ireturn, 1) := by decide +kernel
theorem dX9_spliced_59 : decode cX9_spliced 59 = .ok (.iload_n 1, 1) := by decide +kernel
theorem dX9_spliced_60 : decode cX9_spliced 60 = .ok (.aload_n 0, 1) := by decide +kernel
theorem dX9_spliced_61 : decode cX9_spliced 61 = .ok (.getfield 50, 3) := by decide +kernel
theorem dX9_spliced_64 : decode cX9_spliced 64 = .ok (.getfield 269, 3) := by decide +kernel
theorem dX9_spliced_67 : decode cX9_spliced 67 = .ok (.if_icmp .ge 15, 3) := by decide +kernel
theorem dX9_spliced_70 : decode cX9_spliced 70 = .ok (.aload_n 0, 1) := by decide +kernel
theorem dX9_spliced_71 : decode cX9_spliced 71 = .ok (.getfield 50, 3) := by decide +kernel
theorem dX9_spliced_74 : decode cX9_spliced 74 = .ok (.getfield 270, 3) := by decide +kernel
theorem dX9_spliced_77 : decode cX9_spliced 77 = .ok (.iload_n 1, 1) := by decide +kernel
theorem dX9_spliced_78 : decode cX9_spliced 78 = .ok (.iaload, 1) := by decide +kernel
theorem dX9_spliced_79 : decode cX9_spliced 79 = .ok (.goto 5, 3) := by decide +kernel
theorem dX9_spliced_82 : decode cX9_spliced 82 = .ok (.bipush (-9), 2) := by decide +kernel
theorem dX9_spliced_84 : decode cX9_spliced 84 = .ok (.ireturn, 1) := by decide +kernel
theorem dX9_balance_0 : decode cX9_balance 0 = .ok (.iload_n 1, 1) := by decide +kernel
theorem dX9_balance_1 : decode cX9_balance 1 = .ok (.invokestatic 118, 3) := by decide +kernel
theorem dX9_balance_4 : decode cX9_balance 4 = .ok (.ifCond .ne 12, 3) := by decide +kernel
theorem dX9_balance_7 : decode cX9_balance 7 = .ok (.ldc 218, 2) := by decide +kernel
theorem dX9_balance_9 : decode cX9_balance 9 = .ok (.aload_n 0, 1) := by decide +kernel
theorem dX9_balance_10 : decode cX9_balance 10 = .ok (.iconst (-1), 1) := by decide +kernel
theorem dX9_balance_11 : decode cX9_balance 11 = .ok (.invokevirtual 86, 3) := by decide +kernel
theorem dX9_balance_14 : decode cX9_balance 14 = .ok (.iadd, 1) := by decide +kernel
theorem dX9_balance_15 : decode cX9_balance 15 = .ok (.ireturn, 1) := by decide +kernel
theorem dX9_balance_16 : decode cX9_balance 16 = .ok (.aload_n 0, 1) := by decide +kernel
theorem dX9_balance_17 : decode cX9_balance 17 = .ok (.getfield 12, 3) := by decide +kernel
theorem dX9_balance_20 : decode cX9_balance 20 = .ok (.iload_n 1, 1) := by decide +kernel
theorem dX9_balance_21 : decode cX9_balance 21 = .ok (.invokevirtual 271, 3) := by decide +kernel
theorem dX9_balance_24 : decode cX9_balance 24 = .ok (.ireturn, 1) := by decide +kernel
theorem dX9_flow_0 : decode cX9_flow 0 = .ok (.aload_n 0, 1) := by decide +kernel
theorem dX9_flow_1 : decode cX9_flow 1 = .ok (.getfield 29, 3) := by decide +kernel
theorem dX9_flow_4 : decode cX9_flow 4 = .ok (.aload_n 0, 1) := by decide +kernel
theorem dX9_flow_5 : decode cX9_flow 5 = .ok (.getfield 12, 3) := by decide +kernel
theorem dX9_flow_8 : decode cX9_flow 8 = .ok (.iconst 0, 1) := by decide +kernel
theorem dX9_flow_9 : decode cX9_flow 9 = .ok (.invokevirtual 172, 3) := by decide +kernel
theorem dX9_flow_12 : decode cX9_flow 12 = .ok (.aload_n 0, 1) := by decide +kernel
theorem dX9_flow_13 : decode cX9_flow 13 = .ok (.getfield 57, 3) := by decide +kernel
theorem dX9_flow_16 : decode cX9_flow 16 = .ok (.aload_n 0, 1) := by decide +kernel
theorem dX9_flow_17 : decode cX9_flow 17 = .ok (.getfield 29, 3) := by decide +kernel
theorem dX9_flow_20 : decode cX9_flow 20 = .ok (.invokevirtual 274, 3) := by decide +kernel
theorem dX9_flow_23 : decode cX9_flow 23 = .ok (.invokestatic 157, 3) := by decide +kernel
theorem dX9_flow_26 : decode cX9_flow 26 = .ok (.ireturn, 1) := by decide +kernel
theorem dX9_loose_0 : decode cX9_loose 0 = .ok (.iload_n 1, 1) := by decide +kernel
theorem dX9_loose_1 : decode cX9_loose 1 = .ok (.ifCond .eq 15, 3) := by decide +kernel
theorem dX9_loose_4 : decode cX9_loose 4 = .ok (.iload_n 1, 1) := by decide +kernel
theorem dX9_loose_5 : decode cX9_loose 5 = .ok (.iconst 1, 1) := by decide +kernel
theorem dX9_loose_6 : decode cX9_loose 6 = .ok (.if_icmp .eq 10, 3) := by decide +kernel
theorem dX9_loose_9 : decode cX9_loose 9 = .ok (.aload_n 0, 1) := by decide +kernel
theorem dX9_loose_10 : decode cX9_loose 10 = .ok (.bipush (-2), 2) := by decide +kernel
theorem dX9_loose_12 : decode cX9_loose 12 = .ok (.invokevirtual 86, 3) := by decide +kernel
theorem dX9_loose_15 : decode cX9_loose 15 = .ok (.ireturn, 1) := by decide +kernel
theorem dX9_loose_16 : decode cX9_loose 16 = .ok (.aload_n 0, 1) := by decide +kernel
theorem dX9_loose_17 : decode cX9_loose 17 = .ok (.getfield 36, 3) := by decide +kernel
theorem dX9_loose_20 : decode cX9_loose 20 = .ok (.aload_n 0, 1) := by decide +kernel
theorem dX9_loose_21 : decode cX9_loose 21 = .ok (.getfield 12, 3) := by decide +kernel
theorem dX9_loose_24 : decode cX9_loose 24 = .ok (.invokevirtual 277, 3) := by decide +kernel
theorem dX9_loose_27 : decode cX9_loose 27 = .ok (.istore_n 2, 1) := by decide +kernel
theorem dX9_loose_28 : decode cX9_loose 28 = .ok (.iload_n 2, 1) := by decide +kernel
theorem dX9_loose_29 : decode cX9_loose 29 = .ok (.ifCond .ge 6, 3) := by decide +kernel
theorem dX9_loose_32 : decode cX9_loose 32 = .ok (.bipush (-9), 2) := by decide +kernel
theorem dX9_loose_34 : decode cX9_loose 34 = .ok (.ireturn, 1) := by decide +kernel
theorem dX9_loose_35 : decode cX9_loose 35 = .ok (.iload_n 1, 1) := by decide +kernel
theorem dX9_loose_36 : decode cX9_loose 36 = .ok (.ifCond .ne 14, 3) := by decide +kernel
theorem dX9_loose_39 : decode cX9_loose 39 = .ok (.aload_n 0, 1) := by decide +kernel
theorem dX9_loose_40 : decode cX9_loose 40 = .ok (.getfield 36, 3) := by decide +kernel
theorem dX9_loose_43 : decode cX9_loose 43 = .ok (.iload_n 2, 1) := by decide +kernel
theorem dX9_loose_44 : decode cX9_loose 44 = .ok (.invokevirtual 280, 3) := by decide +kernel
theorem dX9_loose_47 : decode cX9_loose 47 = .ok (.goto 4, 3) := by decide +kernel
theorem dX9_loose_50 : decode cX9_loose 50 = .ok (.iload_n 2, 1) := by decide +kernel
theorem dX9_loose_51 : decode cX9_loose 51 = .ok (.ireturn, 1) := by decide +kernel
theorem dX9_without_0 : decode cX9_without 0 = .ok (.aload_n 0, 1) := by decide +kernel
theorem dX9_without_1 : decode cX9_without 1 = .ok (.getfield 12, 3) := by decide +kernel
theorem dX9_without_4 : decode cX9_without 4 = .ok (.iload_n 1, 1) := by decide +kernel
theorem dX9_without_5 : decode cX9_without 5 = .ok (.invokevirtual 127, 3) := by decide +kernel
theorem dX9_without_8 : decode cX9_without 8 = .ok (.ifCond .ne 9, 3) := by decide +kernel
theorem dX9_without_11 : decode cX9_without 11 = .ok (.aload_n 0, 1) := by decide +kernel
theorem dX9_without_12 : decode cX9_without 12 = .ok (.iconst (-1), 1) := by decide +kernel
theorem dX9_without_13 : decode cX9_without 13 = .ok (.invokevirtual 86, 3) := by decide +kernel
theorem dX9_without_16 : decode cX9_without 16 = .ok (.ireturn, 1) := by decide +kernel
theorem dX9_without_17 : decode cX9_without 17 = .ok (.aload_n 0, 1) := by decide +kernel
theorem dX9_without_18 : decode cX9_without 18 = .ok (.iload_n 1, 1) := by decide +kernel
theorem dX9_without_19 : decode cX9_without 19 = .ok (.invokevirtual 283, 3) := by decide +kernel
theorem dX9_without_22 : decode cX9_without 22 = .ok (.invokestatic 157, 3) := by decide +kernel
theorem dX9_without_25 : decode cX9_without 25 = .ok (.ireturn, 1) := by decide +kernel
theorem dX9_costWithout_0 : decode cX9_costWithout 0 = .ok (.aload_n 0, 1) := by decide +kernel
theorem dX9_costWithout_1 : decode cX9_costWithout 1 = .ok (.getfield 16, 3) := by decide +kernel
theorem dX9_costWithout_4 : decode cX9_costWithout 4 = .ok (.aload_n 0, 1) := by decide +kernel
theorem dX9_costWithout_5 : decode cX9_costWithout 5 = .ok (.getfield 12, 3) := by decide +kernel
theorem dX9_costWithout_8 : decode cX9_costWithout 8 = .ok (.invokevirtual 107, 3) := by decide +kernel
theorem dX9_costWithout_11 : decode cX9_costWithout 11 = .ok (.aload_n 0, 1) := by decide +kernel
theorem dX9_costWithout_12 : decode cX9_costWithout 12 = .ok (.getfield 16, 3) := by decide +kernel
theorem dX9_costWithout_15 : decode cX9_costWithout 15 = .ok (.iconst 1, 1) := by decide +kernel
theorem dX9_costWithout_16 : decode cX9_costWithout 16 = .ok (.iload_n 1, 1) := by decide +kernel
theorem dX9_costWithout_17 : decode cX9_costWithout 17 = .ok (.ishl, 1) := by decide +kernel
theorem dX9_costWithout_18 : decode cX9_costWithout 18 = .ok (.invokevirtual 286, 3) := by decide +kernel
theorem dX9_costWithout_21 : decode cX9_costWithout 21 = .ok (.aload_n 0, 1) := by decide +kernel
theorem dX9_costWithout_22 : decode cX9_costWithout 22 = .ok (.invokevirtual 289, 3) := by decide +kernel
theorem dX9_costWithout_25 : decode cX9_costWithout 25 = .ok (.ireturn, 1) := by decide +kernel
theorem dX9_costOfTrial_0 : decode cX9_costOfTrial 0 = .ok (.aload_n 0, 1) := by decide +kernel
theorem dX9_costOfTrial_1 : decode cX9_costOfTrial 1 = .ok (.getfield 36, 3) := by decide +kernel
theorem dX9_costOfTrial_4 : decode cX9_costOfTrial 4 = .ok (.aload_n 0, 1) := by decide +kernel
theorem dX9_costOfTrial_5 : decode cX9_costOfTrial 5 = .ok (.getfield 16, 3) := by decide +kernel
theorem dX9_costOfTrial_8 : decode cX9_costOfTrial 8 = .ok (.invokevirtual 184, 3) := by decide +kernel
theorem dX9_costOfTrial_11 : decode cX9_costOfTrial 11 = .ok (.aload_n 0, 1) := by decide +kernel
theorem dX9_costOfTrial_12 : decode cX9_costOfTrial 12 = .ok (.getfield 36, 3) := by decide +kernel
theorem dX9_costOfTrial_15 : decode cX9_costOfTrial 15 = .ok (.invokevirtual 191, 3) := by decide +kernel
theorem dX9_costOfTrial_18 : decode cX9_costOfTrial 18 = .ok (.ireturn, 1) := by decide +kernel
theorem dX9_turned_0 : decode cX9_turned 0 = .ok (.aload_n 0, 1) := by decide +kernel
theorem dX9_turned_1 : decode cX9_turned 1 = .ok (.getfield 12, 3) := by decide +kernel
theorem dX9_turned_4 : decode cX9_turned 4 = .ok (.iload_n 1, 1) := by decide +kernel
theorem dX9_turned_5 : decode cX9_turned 5 = .ok (.invokevirtual 127, 3) := by decide +kernel
theorem dX9_turned_8 : decode cX9_turned 8 = .ok (.ifCond .ne 9, 3) := by decide +kernel
theorem dX9_turned_11 : decode cX9_turned 11 = .ok (.aload_n 0, 1) := by decide +kernel
theorem dX9_turned_12 : decode cX9_turned 12 = .ok (.iconst (-1), 1) := by decide +kernel
theorem dX9_turned_13 : decode cX9_turned 13 = .ok (.invokevirtual 86, 3) := by decide +kernel
theorem dX9_turned_16 : decode cX9_turned 16 = .ok (.ireturn, 1) := by decide +kernel
theorem dX9_turned_17 : decode cX9_turned 17 = .ok (.aload_n 0, 1) := by decide +kernel
theorem dX9_turned_18 : decode cX9_turned 18 = .ok (.getfield 16, 3) := by decide +kernel
theorem dX9_turned_21 : decode cX9_turned 21 = .ok (.aload_n 0, 1) := by decide +kernel
theorem dX9_turned_22 : decode cX9_turned 22 = .ok (.getfield 12, 3) := by decide +kernel
theorem dX9_turned_25 : decode cX9_turned 25 = .ok (.invokevirtual 107, 3) := by decide +kernel
theorem dX9_turned_28 : decode cX9_turned 28 = .ok (.aload_n 0, 1) := by decide +kernel
theorem dX9_turned_29 : decode cX9_turned 29 = .ok (.getfield 16, 3) := by decide +kernel
theorem dX9_turned_32 : decode cX9_turned 32 = .ok (.iload_n 1, 1) := by decide +kernel
theorem dX9_turned_33 : decode cX9_turned 33 = .ok (.invokevirtual 292, 3) := by decide +kernel
theorem dX9_turned_36 : decode cX9_turned 36 = .ok (.aload_n 0, 1) := by decide +kernel
theorem dX9_turned_37 : decode cX9_turned 37 = .ok (.invokevirtual 289, 3) := by decide +kernel
theorem dX9_turned_40 : decode cX9_turned 40 = .ok (.invokestatic 157, 3) := by decide +kernel
theorem dX9_turned_43 : decode cX9_turned 43 = .ok (.ireturn, 1) := by decide +kernel
theorem dX9_worst_0 : decode cX9_worst 0 = .ok (.bipush (-9), 2) := by decide +kernel
theorem dX9_worst_2 : decode cX9_worst 2 = .ok (.istore_n 1, 1) := by decide +kernel
theorem dX9_worst_3 : decode cX9_worst 3 = .ok (.iconst (-1), 1) := by decide +kernel
theorem dX9_worst_4 : decode cX9_worst 4 = .ok (.istore_n 2, 1) := by decide +kernel
theorem dX9_worst_5 : decode cX9_worst 5 = .ok (.iconst 0, 1) := by decide +kernel
theorem dX9_worst_6 : decode cX9_worst 6 = .ok (.istore_n 3, 1) := by decide +kernel
theorem dX9_worst_7 : decode cX9_worst 7 = .ok (.iload_n 3, 1) := by decide +kernel
theorem dX9_worst_8 : decode cX9_worst 8 = .ok (.aload_n 0, 1) := by decide +kernel
theorem dX9_worst_9 : decode cX9_worst 9 = .ok (.getfield 12, 3) := by decide +kernel
theorem dX9_worst_12 : decode cX9_worst 12 = .ok (.getfield 122, 3) := by decide +kernel
theorem dX9_worst_15 : decode cX9_worst 15 = .ok (.if_icmp .ge 55, 3) := by decide +kernel
theorem dX9_worst_18 : decode cX9_worst 18 = .ok (.aload_n 0, 1) := by decide +kernel
theorem dX9_worst_19 : decode cX9_worst 19 = .ok (.getfield 12, 3) := by decide +kernel
theorem dX9_worst_22 : decode cX9_worst 22 = .ok (.iload_n 3, 1) := by decide +kernel
theorem dX9_worst_23 : decode cX9_worst 23 = .ok (.invokevirtual 295, 3) := by decide +kernel
theorem dX9_worst_26 : decode cX9_worst 26 = .ok (.ifCond .eq 38, 3) := by decide +kernel
theorem dX9_worst_29 : decode cX9_worst 29 = .ok (.aload_n 0, 1) := by decide +kernel
theorem dX9_worst_30 : decode cX9_worst 30 = .ok (.iload_n 3, 1) := by decide +kernel
theorem dX9_worst_31 : decode cX9_worst 31 = .ok (.invokevirtual 283, 3) := by decide +kernel
theorem dX9_worst_34 : decode cX9_worst 34 = .ok (.istore 4, 2) := by decide +kernel
theorem dX9_worst_36 : decode cX9_worst 36 = .ok (.iload 4, 2) := by decide +kernel
theorem dX9_worst_38 : decode cX9_worst 38 = .ok (.ldc 180, 2) := by decide +kernel
theorem dX9_worst_40 : decode cX9_worst 40 = .ok (.if_icmp .lt 9, 3) := by decide +kernel
theorem dX9_worst_43 : decode cX9_worst 43 = .ok (.sipush 10000, 3) := by decide +kernel
theorem dX9_worst_46 : decode cX9_worst 46 = .ok (.goto 5, 3) := by decide +kernel
theorem dX9_worst_49 : decode cX9_worst 49 = .ok (.iload 4, 2) := by decide +kernel
theorem dX9_worst_51 : decode cX9_worst 51 = .ok (.istore 5, 2) := by decide +kernel
theorem dX9_worst_53 : decode cX9_worst 53 = .ok (.iload 5, 2) := by decide +kernel
theorem dX9_worst_55 : decode cX9_worst 55 = .ok (.iload_n 2, 1) := by decide +kernel
theorem dX9_worst_56 : decode cX9_worst 56 = .ok (.if_icmp .le 8, 3) := by decide +kernel
theorem dX9_worst_59 : decode cX9_worst 59 = .ok (.iload 5, 2) := by decide +kernel
theorem dX9_worst_61 : decode cX9_worst 61 = .ok (.istore_n 2, 1) := by decide +kernel
theorem dX9_worst_62 : decode cX9_worst 62 = .ok (.iload_n 3, 1) := by decide +kernel
theorem dX9_worst_63 : decode cX9_worst 63 = .ok (.istore_n 1, 1) := by decide +kernel
theorem dX9_worst_64 : decode cX9_worst 64 = .ok (.iinc 3 1, 3) := by decide +kernel
theorem dX9_worst_67 : decode cX9_worst 67 = .ok (.goto (-60), 3) := by decide +kernel
theorem dX9_worst_70 : decode cX9_worst 70 = .ok (.iload_n 1, 1) := by decide +kernel
theorem dX9_worst_71 : decode cX9_worst 71 = .ok (.ireturn, 1) := by decide +kernel
theorem dX9_shared_0 : decode cX9_shared 0 = .ok (.iload_n 1, 1) := by decide +kernel
theorem dX9_shared_1 : decode cX9_shared 1 = .ok (.iconst 1, 1) := by decide +kernel
theorem dX9_shared_2 : decode cX9_shared 2 = .ok (.if_icmp .ge 10, 3) := by decide +kernel
theorem dX9_shared_5 : decode cX9_shared 5 = .ok (.aload_n 0, 1) := by decide +kernel
theorem dX9_shared_6 : decode cX9_shared 6 = .ok (.bipush (-4), 2) := by decide +kernel
theorem dX9_shared_8 : decode cX9_shared 8 = .ok (.invokevirtual 86, 3) := by decide +kernel
theorem dX9_shared_11 : decode cX9_shared 11 = .ok (.ireturn, 1) := by decide +kernel
theorem dX9_shared_12 : decode cX9_shared 12 = .ok (.iload_n 1, 1) := by decide +kernel
theorem dX9_shared_13 : decode cX9_shared 13 = .ok (.iconst 3, 1) := by decide +kernel
theorem dX9_shared_14 : decode cX9_shared 14 = .ok (.if_icmp .le 10, 3) := by decide +kernel
theorem dX9_shared_17 : decode cX9_shared 17 = .ok (.aload_n 0, 1) := by decide +kernel
theorem dX9_shared_18 : decode cX9_shared 18 = .ok (.bipush (-6), 2) := by decide +kernel
theorem dX9_shared_20 : decode cX9_shared 20 = .ok (.invokevirtual 86, 3) := by decide +kernel
theorem dX9_shared_23 : decode cX9_shared 23 = .ok (.ireturn, 1) := by decide +kernel
theorem dX9_shared_24 : decode cX9_shared 24 = .ok (.iload_n 2, 1) := by decide +kernel
theorem dX9_shared_25 : decode cX9_shared 25 = .ok (.ifCond .lt 8, 3) := by decide +kernel
theorem dX9_shared_28 : decode cX9_shared 28 = .ok (.iload_n 2, 1) := by decide +kernel
theorem dX9_shared_29 : decode cX9_shared 29 = .ok (.iconst 2, 1) := by decide +kernel
theorem dX9_shared_30 : decode cX9_shared 30 = .ok (.if_icmp .le 10, 3) := by decide +kernel
theorem dX9_shared_33 : decode cX9_shared 33 = .ok (.aload_n 0, 1) := by decide +kernel
theorem dX9_shared_34 : decode cX9_shared 34 = .ok (.bipush (-2), 2) := by decide +kernel
theorem dX9_shared_36 : decode cX9_shared 36 = .ok (.invokevirtual 86, 3) := by decide +kernel
theorem dX9_shared_39 : decode cX9_shared 39 = .ok (.ireturn, 1) := by decide +kernel
theorem dX9_shared_40 : decode cX9_shared 40 = .ok (.aload_n 0, 1) := by decide +kernel
theorem dX9_shared_41 : decode cX9_shared 41 = .ok (.getfield 36, 3) := by decide +kernel
theorem dX9_shared_44 : decode cX9_shared 44 = .ok (.aload_n 0, 1) := by decide +kernel
theorem dX9_shared_45 : decode cX9_shared 45 = .ok (.getfield 12, 3) := by decide +kernel
theorem dX9_shared_48 : decode cX9_shared 48 = .ok (.invokevirtual 184, 3) := by decide +kernel
theorem dX9_shared_51 : decode cX9_shared 51 = .ok (.aload_n 0, 1) := by decide +kernel
theorem dX9_shared_52 : decode cX9_shared 52 = .ok (.getfield 64, 3) := by decide +kernel
theorem dX9_shared_55 : decode cX9_shared 55 = .ok (.aload_n 0, 1) := by decide +kernel
theorem dX9_shared_56 : decode cX9_shared 56 = .ok (.getfield 36, 3) := by decide +kernel
theorem dX9_shared_59 : decode cX9_shared 59 = .ok (.iload_n 1, 1) := by decide +kernel
theorem dX9_shared_60 : decode cX9_shared 60 = .ok (.invokevirtual 298, 3) := by decide +kernel
theorem dX9_shared_63 : decode cX9_shared 63 = .ok (.aload_n 0, 1) := by decide +kernel
theorem dX9_shared_64 : decode cX9_shared 64 = .ok (.getfield 64, 3) := by decide +kernel
theorem dX9_shared_67 : decode cX9_shared 67 = .ok (.getfield 301, 3) := by decide +kernel
theorem dX9_shared_70 : decode cX9_shared 70 = .ok (.ifCond .ne 6, 3) := by decide +kernel
theorem dX9_shared_73 : decode cX9_shared 73 = .ok (.bipush (-9), 2) := by decide +kernel
theorem dX9_shared_75 : decode cX9_shared 75 = .ok (.ireturn, 1) := by decide +kernel
theorem dX9_shared_76 : decode cX9_shared 76 = .ok (.iload_n 2, 1) := by decide +kernel
theorem dX9_shared_77 : decode cX9_shared 77 = .ok (.lookupswitch 43 #[(0, 27), (1, 35)], 27) := by decide +kernel
theorem dX9_shared_104 : decode cX9_shared 104 = .ok (.aload_n 0, 1) := by decide +kernel
theorem dX9_shared_105 : decode cX9_shared 105 = .ok (.getfield 64, 3) := by decide +kernel
theorem dX9_shared_108 : decode cX9_shared 108 = .ok (.getfield 303, 3) := by decide +kernel
theorem dX9_shared_111 : decode cX9_shared 111 = .ok (.ireturn, 1) := by decide +kernel
theorem dX9_shared_112 : decode cX9_shared 112 = .ok (.aload_n 0, 1) := by decide +kernel
theorem dX9_shared_113 : decode cX9_shared 113 = .ok (.getfield 64, 3) := by decide +kernel
theorem dX9_shared_116 : decode cX9_shared 116 = .ok (.getfield 306, 3) := by decide +kernel
theorem dX9_shared_119 : decode cX9_shared 119 = .ok (.ireturn, 1) := by decide +kernel
theorem dX9_shared_120 : decode cX9_shared 120 = .ok (.aload_n 0, 1) := by decide +kernel
theorem dX9_shared_121 : decode cX9_shared 121 = .ok (.getfield 64, 3) := by decide +kernel
theorem dX9_shared_124 : decode cX9_shared 124 = .ok (.getfield 309, 3) := by decide +kernel
theorem dX9_shared_127 : decode cX9_shared 127 = .ok (.ireturn, 1) := by decide +kernel
theorem dX9_dealt_0 : decode cX9_dealt 0 = .ok (.iload_n 1, 1) := by decide +kernel
theorem dX9_dealt_1 : decode cX9_dealt 1 = .ok (.iconst 1, 1) := by decide +kernel
theorem dX9_dealt_2 : decode cX9_dealt 2 = .ok (.if_icmp .ge 10, 3) := by decide +kernel
theorem dX9_dealt_5 : decode cX9_dealt 5 = .ok (.aload_n 0, 1) := by decide +kernel
theorem dX9_dealt_6 : decode cX9_dealt 6 = .ok (.bipush (-4), 2) := by decide +kernel
theorem dX9_dealt_8 : decode cX9_dealt 8 = .ok (.invokevirtual 86, 3) := by decide +kernel
theorem dX9_dealt_11 : decode cX9_dealt 11 = .ok (.ireturn, 1) := by decide +kernel
theorem dX9_dealt_12 : decode cX9_dealt 12 = .ok (.iload_n 1, 1) := by decide +kernel
theorem dX9_dealt_13 : decode cX9_dealt 13 = .ok (.iconst 3, 1) := by decide +kernel
theorem dX9_dealt_14 : decode cX9_dealt 14 = .ok (.if_icmp .le 10, 3) := by decide +kernel
theorem dX9_dealt_17 : decode cX9_dealt 17 = .ok (.aload_n 0, 1) := by decide +kernel
theorem dX9_dealt_18 : decode cX9_dealt 18 = .ok (.bipush (-6), 2) := by decide +kernel
theorem dX9_dealt_20 : decode cX9_dealt 20 = .ok (.invokevirtual 86, 3) := by decide +kernel
theorem dX9_dealt_23 : decode cX9_dealt 23 = .ok (.ireturn, 1) := by decide +kernel
theorem dX9_dealt_24 : decode cX9_dealt 24 = .ok (.aload_n 0, 1) := by decide +kernel
theorem dX9_dealt_25 : decode cX9_dealt 25 = .ok (.getfield 12, 3) := by decide +kernel
theorem dX9_dealt_28 : decode cX9_dealt 28 = .ok (.iload_n 2, 1) := by decide +kernel
theorem dX9_dealt_29 : decode cX9_dealt 29 = .ok (.invokevirtual 127, 3) := by decide +kernel
theorem dX9_dealt_32 : decode cX9_dealt 32 = .ok (.ifCond .ne 9, 3) := by decide +kernel
theorem dX9_dealt_35 : decode cX9_dealt 35 = .ok (.aload_n 0, 1) := by decide +kernel
theorem dX9_dealt_36 : decode cX9_dealt 36 = .ok (.iconst (-1), 1) := by decide +kernel
theorem dX9_dealt_37 : decode cX9_dealt 37 = .ok (.invokevirtual 86, 3) := by decide +kernel
theorem dX9_dealt_40 : decode cX9_dealt 40 = .ok (.ireturn, 1) := by decide +kernel
theorem dX9_dealt_41 : decode cX9_dealt 41 = .ok (.aload_n 0, 1) := by decide +kernel
theorem dX9_dealt_42 : decode cX9_dealt 42 = .ok (.getfield 12, 3) := by decide +kernel
theorem dX9_dealt_45 : decode cX9_dealt 45 = .ok (.iload_n 2, 1) := by decide +kernel
theorem dX9_dealt_46 : decode cX9_dealt 46 = .ok (.invokevirtual 295, 3) := by decide +kernel
theorem dX9_dealt_49 : decode cX9_dealt 49 = .ok (.ifCond .ne 6, 3) := by decide +kernel
theorem dX9_dealt_52 : decode cX9_dealt 52 = .ok (.bipush (-9), 2) := by decide +kernel
theorem dX9_dealt_54 : decode cX9_dealt 54 = .ok (.ireturn, 1) := by decide +kernel
theorem dX9_dealt_55 : decode cX9_dealt 55 = .ok (.aload_n 0, 1) := by decide +kernel
theorem dX9_dealt_56 : decode cX9_dealt 56 = .ok (.getfield 36, 3) := by decide +kernel
theorem dX9_dealt_59 : decode cX9_dealt 59 = .ok (.aload_n 0, 1) := by decide +kernel
theorem dX9_dealt_60 : decode cX9_dealt 60 = .ok (.getfield 12, 3) := by decide +kernel
theorem dX9_dealt_63 : decode cX9_dealt 63 = .ok (.invokevirtual 184, 3) := by decide +kernel
theorem dX9_dealt_66 : decode cX9_dealt 66 = .ok (.aload_n 0, 1) := by decide +kernel
theorem dX9_dealt_67 : decode cX9_dealt 67 = .ok (.getfield 64, 3) := by decide +kernel
theorem dX9_dealt_70 : decode cX9_dealt 70 = .ok (.aload_n 0, 1) := by decide +kernel
theorem dX9_dealt_71 : decode cX9_dealt 71 = .ok (.getfield 36, 3) := by decide +kernel
theorem dX9_dealt_74 : decode cX9_dealt 74 = .ok (.iload_n 1, 1) := by decide +kernel
theorem dX9_dealt_75 : decode cX9_dealt 75 = .ok (.invokevirtual 298, 3) := by decide +kernel
theorem dX9_dealt_78 : decode cX9_dealt 78 = .ok (.aload_n 0, 1) := by decide +kernel
theorem dX9_dealt_79 : decode cX9_dealt 79 = .ok (.getfield 64, 3) := by decide +kernel
theorem dX9_dealt_82 : decode cX9_dealt 82 = .ok (.getfield 301, 3) := by decide +kernel
theorem dX9_dealt_85 : decode cX9_dealt 85 = .ok (.ifCond .eq 15, 3) := by decide +kernel
theorem dX9_dealt_88 : decode cX9_dealt 88 = .ok (.aload_n 0, 1) := by decide +kernel
theorem dX9_dealt_89 : decode cX9_dealt 89 = .ok (.getfield 64, 3) := by decide +kernel
theorem dX9_dealt_92 : decode cX9_dealt 92 = .ok (.getfield 312, 3) := by decide +kernel
theorem dX9_dealt_95 : decode cX9_dealt 95 = .ok (.iload_n 2, 1) := by decide +kernel
theorem dX9_dealt_96 : decode cX9_dealt 96 = .ok (.iaload, 1) := by decide +kernel
theorem dX9_dealt_97 : decode cX9_dealt 97 = .ok (.goto 5, 3) := by decide +kernel
theorem dX9_dealt_100 : decode cX9_dealt 100 = .ok (.bipush (-9), 2) := by decide +kernel
theorem dX9_dealt_102 : decode cX9_dealt 102 = .ok (.ireturn, 1) := by decide +kernel
theorem dX9_lost_0 : decode cX9_lost 0 = .ok (.iload_n 1, 1) := by decide +kernel
theorem dX9_lost_1 : decode cX9_lost 1 = .ok (.ifCond .lt 8, 3) := by decide +kernel
theorem dX9_lost_4 : decode cX9_lost 4 = .ok (.iload_n 2, 1) := by decide +kernel
theorem dX9_lost_5 : decode cX9_lost 5 = .ok (.iconst 2, 1) := by decide +kernel
theorem dX9_lost_6 : decode cX9_lost 6 = .ok (.if_icmp .ge 15, 3) := by decide +kernel
theorem dX9_lost_9 : decode cX9_lost 9 = .ok (.ldc2_w 315, 3) := by decide +kernel
theorem dX9_lost_12 : decode cX9_lost 12 = .ok (.aload_n 0, 1) := by decide +kernel
theorem dX9_lost_13 : decode cX9_lost 13 = .ok (.bipush (-4), 2) := by decide +kernel
theorem dX9_lost_15 : decode cX9_lost 15 = .ok (.invokevirtual 86, 3) := by decide +kernel
theorem dX9_lost_18 : decode cX9_lost 18 = .ok (.i2l, 1) := by decide +kernel
theorem dX9_lost_19 : decode cX9_lost 19 = .ok (.lsub, 1) := by decide +kernel
theorem dX9_lost_20 : decode cX9_lost 20 = .ok (.lreturn, 1) := by decide +kernel
theorem dX9_lost_21 : decode cX9_lost 21 = .ok (.iload_n 1, 1) := by decide +kernel
theorem dX9_lost_22 : decode cX9_lost 22 = .ok (.sipush 9999, 3) := by decide +kernel
theorem dX9_lost_25 : decode cX9_lost 25 = .ok (.if_icmp .gt 9, 3) := by decide +kernel
theorem dX9_lost_28 : decode cX9_lost 28 = .ok (.iload_n 2, 1) := by decide +kernel
theorem dX9_lost_29 : decode cX9_lost 29 = .ok (.bipush 20, 2) := by decide +kernel
theorem dX9_lost_31 : decode cX9_lost 31 = .ok (.if_icmp .le 15, 3) := by decide +kernel
theorem dX9_lost_34 : decode cX9_lost 34 = .ok (.ldc2_w 315, 3) := by decide +kernel
theorem dX9_lost_37 : decode cX9_lost 37 = .ok (.aload_n 0, 1) := by decide +kernel
theorem dX9_lost_38 : decode cX9_lost 38 = .ok (.bipush (-6), 2) := by decide +kernel
theorem dX9_lost_40 : decode cX9_lost 40 = .ok (.invokevirtual 86, 3) := by decide +kernel
theorem dX9_lost_43 : decode cX9_lost 43 = .ok (.i2l, 1) := by decide +kernel
theorem dX9_lost_44 : decode cX9_lost 44 = .ok (.lsub, 1) := by decide +kernel
theorem dX9_lost_45 : decode cX9_lost 45 = .ok (.lreturn, 1) := by decide +kernel
theorem dX9_lost_46 : decode cX9_lost 46 = .ok (.iload_n 3, 1) := by decide +kernel
theorem dX9_lost_47 : decode cX9_lost 47 = .ok (.ifCond .eq 20, 3) := by decide +kernel
theorem dX9_lost_50 : decode cX9_lost 50 = .ok (.iload_n 3, 1) := by decide +kernel
theorem dX9_lost_51 : decode cX9_lost 51 = .ok (.iconst 1, 1) := by decide +kernel
theorem dX9_lost_52 : decode cX9_lost 52 = .ok (.if_icmp .eq 15, 3) := by decide +kernel
theorem dX9_lost_55 : decode cX9_lost 55 = .ok (.ldc2_w 315, 3) := by decide +kernel
theorem dX9_lost_58 : decode cX9_lost 58 = .ok (.aload_n 0, 1) := by decide +kernel
theorem dX9_lost_59 : decode cX9_lost 59 = .ok (.bipush (-2), 2) := by decide +kernel
theorem dX9_lost_61 : decode cX9_lost 61 = .ok (.invokevirtual 86, 3) := by decide +kernel
theorem dX9_lost_64 : decode cX9_lost 64 = .ok (.i2l, 1) := by decide +kernel
theorem dX9_lost_65 : decode cX9_lost 65 = .ok (.lsub, 1) := by decide +kernel
theorem dX9_lost_66 : decode cX9_lost 66 = .ok (.lreturn, 1) := by decide +kernel
theorem dX9_lost_67 : decode cX9_lost 67 = .ok (.aload_n 0, 1) := by decide +kernel
theorem dX9_lost_68 : decode cX9_lost 68 = .ok (.getfield 12, 3) := by decide +kernel
theorem dX9_lost_71 : decode cX9_lost 71 = .ok (.invokevirtual 317, 3) := by decide +kernel
theorem dX9_lost_74 : decode cX9_lost 74 = .ok (.bipush 63, 2) := by decide +kernel
theorem dX9_lost_76 : decode cX9_lost 76 = .ok (.iand, 1) := by decide +kernel
theorem dX9_lost_77 : decode cX9_lost 77 = .ok (.istore 4, 2) := by decide +kernel
theorem dX9_lost_79 : decode cX9_lost 79 = .ok (.aload_n 0, 1) := by decide +kernel
theorem dX9_lost_80 : decode cX9_lost 80 = .ok (.iload 4, 2) := by decide +kernel
theorem dX9_lost_82 : decode cX9_lost 82 = .ok (.iload_n 1, 1) := by decide +kernel
theorem dX9_lost_83 : decode cX9_lost 83 = .ok (.iload_n 2, 1) := by decide +kernel
theorem dX9_lost_84 : decode cX9_lost 84 = .ok (.invokevirtual 320, 3) := by decide +kernel
theorem dX9_lost_87 : decode cX9_lost 87 = .ok (.lstore 5, 2) := by decide +kernel
theorem dX9_lost_89 : decode cX9_lost 89 = .ok (.lload 5, 2) := by decide +kernel
theorem dX9_lost_91 : decode cX9_lost 91 = .ok (.lconst 0, 1) := by decide +kernel
theorem dX9_lost_92 : decode cX9_lost 92 = .ok (.lcmp, 1) := by decide +kernel
theorem dX9_lost_93 : decode cX9_lost 93 = .ok (.ifCond .ne 6, 3) := by decide +kernel
theorem dX9_lost_96 : decode cX9_lost 96 = .ok (.iload_n 3, 1) := by decide +kernel
theorem dX9_lost_97 : decode cX9_lost 97 = .ok (.i2l, 1) := by decide +kernel
theorem dX9_lost_98 : decode cX9_lost 98 = .ok (.lreturn, 1) := by decide +kernel
theorem dX9_lost_99 : decode cX9_lost 99 = .ok (.iload_n 2, 1) := by decide +kernel
theorem dX9_lost_100 : decode cX9_lost 100 = .ok (.i2l, 1) := by decide +kernel
theorem dX9_lost_101 : decode cX9_lost 101 = .ok (.iload 4, 2) := by decide +kernel
theorem dX9_lost_103 : decode cX9_lost 103 = .ok (.invokestatic 324, 3) := by decide +kernel
theorem dX9_lost_106 : decode cX9_lost 106 = .ok (.invokestatic 327, 3) := by decide +kernel
theorem dX9_lost_109 : decode cX9_lost 109 = .ok (.lstore 7, 2) := by decide +kernel
theorem dX9_lost_111 : decode cX9_lost 111 = .ok (.lload 5, 2) := by decide +kernel
theorem dX9_lost_113 : decode cX9_lost 113 = .ok (.lload 7, 2) := by decide +kernel
theorem dX9_lost_115 : decode cX9_lost 115 = .ok (.invokestatic 331, 3) := by decide +kernel
theorem dX9_lost_118 : decode cX9_lost 118 = .ok (.lstore 9, 2) := by decide +kernel
theorem dX9_lost_120 : decode cX9_lost 120 = .ok (.iload_n 3, 1) := by decide +kernel
theorem dX9_lost_121 : decode cX9_lost 121 = .ok (.ifCond .ne 8, 3) := by decide +kernel
theorem dX9_lost_124 : decode cX9_lost 124 = .ok (.lload 5, 2) := by decide +kernel
theorem dX9_lost_126 : decode cX9_lost 126 = .ok (.goto 5, 3) := by decide +kernel
theorem dX9_lost_129 : decode cX9_lost 129 = .ok (.lload 7, 2) := by decide +kernel
theorem dX9_lost_131 : decode cX9_lost 131 = .ok (.lload 9, 2) := by decide +kernel
theorem dX9_lost_133 : decode cX9_lost 133 = .ok (.lconst 1, 1) := by decide +kernel
theorem dX9_lost_134 : decode cX9_lost 134 = .ok (.lcmp, 1) := by decide +kernel
theorem dX9_lost_135 : decode cX9_lost 135 = .ok (.ifCond .ge 7, 3) := by decide +kernel
theorem dX9_lost_138 : decode cX9_lost 138 = .ok (.lconst 1, 1) := by decide +kernel
theorem dX9_lost_139 : decode cX9_lost 139 = .ok (.goto 5, 3) := by decide +kernel
theorem dX9_lost_142 : decode cX9_lost 142 = .ok (.lload 9, 2) := by decide +kernel
theorem dX9_lost_144 : decode cX9_lost 144 = .ok (.ldiv, 1) := by decide +kernel
theorem dX9_lost_145 : decode cX9_lost 145 = .ok (.lreturn, 1) := by decide +kernel
theorem dX9_goodOdds_0 : decode cX9_goodOdds 0 = .ok (.lconst 0, 1) := by decide +kernel
theorem dX9_goodOdds_1 : decode cX9_goodOdds 1 = .ok (.lstore 4, 2) := by decide +kernel
theorem dX9_goodOdds_3 : decode cX9_goodOdds 3 = .ok (.iconst 0, 1) := by decide +kernel
theorem dX9_goodOdds_4 : decode cX9_goodOdds 4 = .ok (.istore 6, 2) := by decide +kernel
theorem dX9_goodOdds_6 : decode cX9_goodOdds 6 = .ok (.iload 6, 2) := by decide +kernel
theorem dX9_goodOdds_8 : decode cX9_goodOdds 8 = .ok (.bipush 63, 2) := by decide +kernel
theorem dX9_goodOdds_10 : decode cX9_goodOdds 10 = .ok (.if_icmp .gt 67, 3) := by decide +kernel
theorem dX9_goodOdds_13 : decode cX9_goodOdds 13 = .ok (.iload 6, 2) := by decide +kernel
theorem dX9_goodOdds_15 : decode cX9_goodOdds 15 = .ok (.iload_n 1, 1) := by decide +kernel
theorem dX9_goodOdds_16 : decode cX9_goodOdds 16 = .ok (.iconst (-1), 1) := by decide +kernel
theorem dX9_goodOdds_17 : decode cX9_goodOdds 17 = .ok (.ixor, 1) := by decide +kernel
theorem dX9_goodOdds_18 : decode cX9_goodOdds 18 = .ok (.iand, 1) := by decide +kernel
theorem dX9_goodOdds_19 : decode cX9_goodOdds 19 = .ok (.ifCond .ne 52, 3) := by decide +kernel
theorem dX9_goodOdds_22 : decode cX9_goodOdds 22 = .ok (.aload_n 0, 1) := by decide +kernel
theorem dX9_goodOdds_23 : decode cX9_goodOdds 23 = .ok (.getfield 16, 3) := by decide +kernel
theorem dX9_goodOdds_26 : decode cX9_goodOdds 26 = .ok (.aload_n 0, 1) := by decide +kernel
theorem dX9_goodOdds_27 : decode cX9_goodOdds 27 = .ok (.getfield 12, 3) := by decide +kernel
theorem dX9_goodOdds_30 : decode cX9_goodOdds 30 = .ok (.invokevirtual 107, 3) := by decide +kernel
theorem dX9_goodOdds_33 : decode cX9_goodOdds 33 = .ok (.aload_n 0, 1) := by decide +kernel
theorem dX9_goodOdds_34 : decode cX9_goodOdds 34 = .ok (.getfield 16, 3) := by decide +kernel
theorem dX9_goodOdds_37 : decode cX9_goodOdds 37 = .ok (.iload 6, 2) := by decide +kernel
theorem dX9_goodOdds_39 : decode cX9_goodOdds 39 = .ok (.invokevirtual 286, 3) := by decide +kernel
theorem dX9_goodOdds_42 : decode cX9_goodOdds 42 = .ok (.aload_n 0, 1) := by decide +kernel
theorem dX9_goodOdds_43 : decode cX9_goodOdds 43 = .ok (.invokevirtual 289, 3) := by decide +kernel
theorem dX9_goodOdds_46 : decode cX9_goodOdds 46 = .ok (.iload_n 2, 1) := by decide +kernel
theorem dX9_goodOdds_47 : decode cX9_goodOdds 47 = .ok (.if_icmp .gt 24, 3) := by decide +kernel
theorem dX9_goodOdds_50 : decode cX9_goodOdds 50 = .ok (.lload 4, 2) := by decide +kernel
theorem dX9_goodOdds_52 : decode cX9_goodOdds 52 = .ok (.iload_n 3, 1) := by decide +kernel
theorem dX9_goodOdds_53 : decode cX9_goodOdds 53 = .ok (.iconst 1, 1) := by decide +kernel
theorem dX9_goodOdds_54 : decode cX9_goodOdds 54 = .ok (.isub, 1) := by decide +kernel
theorem dX9_goodOdds_55 : decode cX9_goodOdds 55 = .ok (.i2l, 1) := by decide +kernel
theorem dX9_goodOdds_56 : decode cX9_goodOdds 56 = .ok (.iload_n 1, 1) := by decide +kernel
theorem dX9_goodOdds_57 : decode cX9_goodOdds 57 = .ok (.iload 6, 2) := by decide +kernel
theorem dX9_goodOdds_59 : decode cX9_goodOdds 59 = .ok (.iconst (-1), 1) := by decide +kernel
theorem dX9_goodOdds_60 : decode cX9_goodOdds 60 = .ok (.ixor, 1) := by decide +kernel
theorem dX9_goodOdds_61 : decode cX9_goodOdds 61 = .ok (.iand, 1) := by decide +kernel
theorem dX9_goodOdds_62 : decode cX9_goodOdds 62 = .ok (.invokestatic 324, 3) := by decide +kernel
theorem dX9_goodOdds_65 : decode cX9_goodOdds 65 = .ok (.invokestatic 327, 3) := by decide +kernel
theorem dX9_goodOdds_68 : decode cX9_goodOdds 68 = .ok (.ladd, 1) := by decide +kernel
theorem dX9_goodOdds_69 : decode cX9_goodOdds 69 = .ok (.lstore 4, 2) := by decide +kernel
theorem dX9_goodOdds_71 : decode cX9_goodOdds 71 = .ok (.iinc 6 1, 3) := by decide +kernel
theorem dX9_goodOdds_74 : decode cX9_goodOdds 74 = .ok (.goto (-68), 3) := by decide +kernel
theorem dX9_goodOdds_77 : decode cX9_goodOdds 77 = .ok (.lload 4, 2) := by decide +kernel
theorem dX9_goodOdds_79 : decode cX9_goodOdds 79 = .ok (.lreturn, 1) := by decide +kernel
theorem dX9_power_0 : decode cX9_power 0 = .ok (.lconst 1, 1) := by decide +kernel
theorem dX9_power_1 : decode cX9_power 1 = .ok (.lstore_n 3, 1) := by decide +kernel
theorem dX9_power_2 : decode cX9_power 2 = .ok (.iconst 0, 1) := by decide +kernel
theorem dX9_power_3 : decode cX9_power 3 = .ok (.istore 5, 2) := by decide +kernel
theorem dX9_power_5 : decode cX9_power 5 = .ok (.iload 5, 2) := by decide +kernel
theorem dX9_power_7 : decode cX9_power 7 = .ok (.iload_n 2, 1) := by decide +kernel
theorem dX9_power_8 : decode cX9_power 8 = .ok (.if_icmp .ge 13, 3) := by decide +kernel
theorem dX9_power_11 : decode cX9_power 11 = .ok (.lload_n 3, 1) := by decide +kernel
theorem dX9_power_12 : decode cX9_power 12 = .ok (.lload_n 0, 1) := by decide +kernel
theorem dX9_power_13 : decode cX9_power 13 = .ok (.lmul, 1) := by decide +kernel
theorem dX9_power_14 : decode cX9_power 14 = .ok (.lstore_n 3, 1) := by decide +kernel
theorem dX9_power_15 : decode cX9_power 15 = .ok (.iinc 5 1, 3) := by decide +kernel
theorem dX9_power_18 : decode cX9_power 18 = .ok (.goto (-13), 3) := by decide +kernel
theorem dX9_power_21 : decode cX9_power 21 = .ok (.lload_n 3, 1) := by decide +kernel
theorem dX9_power_22 : decode cX9_power 22 = .ok (.lreturn, 1) := by decide +kernel
theorem dX9_commonDivisor_0 : decode cX9_commonDivisor 0 = .ok (.lload_n 0, 1) := by decide +kernel
theorem dX9_commonDivisor_1 : decode cX9_commonDivisor 1 = .ok (.lstore 4, 2) := by decide +kernel
theorem dX9_commonDivisor_3 : decode cX9_commonDivisor 3 = .ok (.lload_n 2, 1) := by decide +kernel
theorem dX9_commonDivisor_4 : decode cX9_commonDivisor 4 = .ok (.lstore 6, 2) := by decide +kernel
theorem dX9_commonDivisor_6 : decode cX9_commonDivisor 6 = .ok (.iconst 0, 1) := by decide +kernel
theorem dX9_commonDivisor_7 : decode cX9_commonDivisor 7 = .ok (.istore 8, 2) := by decide +kernel
theorem dX9_commonDivisor_9 : decode cX9_commonDivisor 9 = .ok (.iload 8, 2) := by decide +kernel
theorem dX9_commonDivisor_11 : decode cX9_commonDivisor 11 = .ok (.sipush 200, 3) := by decide +kernel
theorem dX9_commonDivisor_14 : decode cX9_commonDivisor 14 = .ok (.if_icmp .ge 31, 3) := by decide +kernel
theorem dX9_commonDivisor_17 : decode cX9_commonDivisor 17 = .ok (.lload 6, 2) := by decide +kernel
theorem dX9_commonDivisor_19 : decode cX9_commonDivisor 19 = .ok (.lconst 0, 1) := by decide +kernel
theorem dX9_commonDivisor_20 : decode cX9_commonDivisor 20 = .ok (.lcmp, 1) := by decide +kernel
theorem dX9_commonDivisor_21 : decode cX9_commonDivisor 21 = .ok (.ifCond .eq 24, 3) := by decide +kernel
theorem dX9_commonDivisor_24 : decode cX9_commonDivisor 24 = .ok (.lload 4, 2) := by decide +kernel
theorem dX9_commonDivisor_26 : decode cX9_commonDivisor 26 = .ok (.lload 6, 2) := by decide +kernel
theorem dX9_commonDivisor_28 : decode cX9_commonDivisor 28 = .ok (.lrem, 1) := by decide +kernel
theorem dX9_commonDivisor_29 : decode cX9_commonDivisor 29 = .ok (.lstore 9, 2) := by decide +kernel
theorem dX9_commonDivisor_31 : decode cX9_commonDivisor 31 = .ok (.lload 6, 2) := by decide +kernel
theorem dX9_commonDivisor_33 : decode cX9_commonDivisor 33 = .ok (.lstore 4, 2) := by decide +kernel
theorem dX9_commonDivisor_35 : decode cX9_commonDivisor 35 = .ok (.lload 9, 2) := by decide +kernel
theorem dX9_commonDivisor_37 : decode cX9_commonDivisor 37 = .ok (.lstore 6, 2) := by decide +kernel
theorem dX9_commonDivisor_39 : decode cX9_commonDivisor 39 = .ok (.iinc 8 1, 3) := by decide +kernel
theorem dX9_commonDivisor_42 : decode cX9_commonDivisor 42 = .ok (.goto (-33), 3) := by decide +kernel
theorem dX9_commonDivisor_45 : decode cX9_commonDivisor 45 = .ok (.lload 4, 2) := by decide +kernel
theorem dX9_commonDivisor_47 : decode cX9_commonDivisor 47 = .ok (.lreturn, 1) := by decide +kernel
theorem dX9_whatIs_0 : decode cX9_whatIs 0 = .ok (.aload_n 0, 1) := by decide +kernel
theorem dX9_whatIs_1 : decode cX9_whatIs 1 = .ok (.getfield 12, 3) := by decide +kernel
theorem dX9_whatIs_4 : decode cX9_whatIs 4 = .ok (.iload_n 1, 1) := by decide +kernel
theorem dX9_whatIs_5 : decode cX9_whatIs 5 = .ok (.invokevirtual 127, 3) := by decide +kernel
theorem dX9_whatIs_8 : decode cX9_whatIs 8 = .ok (.ifCond .ne 9, 3) := by decide +kernel
theorem dX9_whatIs_11 : decode cX9_whatIs 11 = .ok (.aload_n 0, 1) := by decide +kernel
theorem dX9_whatIs_12 : decode cX9_whatIs 12 = .ok (.iconst (-1), 1) := by decide +kernel
theorem dX9_whatIs_13 : decode cX9_whatIs 13 = .ok (.invokevirtual 86, 3) := by decide +kernel
theorem dX9_whatIs_16 : decode cX9_whatIs 16 = .ok (.ireturn, 1) := by decide +kernel
theorem dX9_whatIs_17 : decode cX9_whatIs 17 = .ok (.iload_n 2, 1) := by decide +kernel
theorem dX9_whatIs_18 : decode cX9_whatIs 18 = .ok (.ifCond .eq 15, 3) := by decide +kernel
theorem dX9_whatIs_21 : decode cX9_whatIs 21 = .ok (.iload_n 2, 1) := by decide +kernel
theorem dX9_whatIs_22 : decode cX9_whatIs 22 = .ok (.iconst 1, 1) := by decide +kernel
theorem dX9_whatIs_23 : decode cX9_whatIs 23 = .ok (.if_icmp .eq 10, 3) := by decide +kernel
theorem dX9_whatIs_26 : decode cX9_whatIs 26 = .ok (.aload_n 0, 1) := by decide +kernel
theorem dX9_whatIs_27 : decode cX9_whatIs 27 = .ok (.bipush (-2), 2) := by decide +kernel
theorem dX9_whatIs_29 : decode cX9_whatIs 29 = .ok (.invokevirtual 86, 3) := by decide +kernel
theorem dX9_whatIs_32 : decode cX9_whatIs 32 = .ok (.ireturn, 1) := by decide +kernel
theorem dX9_whatIs_33 : decode cX9_whatIs 33 = .ok (.iconst 0, 1) := by decide +kernel
theorem dX9_whatIs_34 : decode cX9_whatIs 34 = .ok (.istore_n 3, 1) := by decide +kernel
theorem dX9_whatIs_35 : decode cX9_whatIs 35 = .ok (.iload_n 2, 1) := by decide +kernel
theorem dX9_whatIs_36 : decode cX9_whatIs 36 = .ok (.ifCond .ne 8, 3) := by decide +kernel
theorem dX9_whatIs_39 : decode cX9_whatIs 39 = .ok (.bipush 6, 2) := by decide +kernel
theorem dX9_whatIs_41 : decode cX9_whatIs 41 = .ok (.goto 5, 3) := by decide +kernel
theorem dX9_whatIs_44 : decode cX9_whatIs 44 = .ok (.bipush 10, 2) := by decide +kernel
theorem dX9_whatIs_46 : decode cX9_whatIs 46 = .ok (.istore 4, 2) := by decide +kernel
theorem dX9_whatIs_48 : decode cX9_whatIs 48 = .ok (.iconst 0, 1) := by decide +kernel
theorem dX9_whatIs_49 : decode cX9_whatIs 49 = .ok (.istore 5, 2) := by decide +kernel
theorem dX9_whatIs_51 : decode cX9_whatIs 51 = .ok (.iload 5, 2) := by decide +kernel
theorem dX9_whatIs_53 : decode cX9_whatIs 53 = .ok (.iload 4, 2) := by decide +kernel
theorem dX9_whatIs_55 : decode cX9_whatIs 55 = .ok (.if_icmp .ge 27, 3) := by decide +kernel
theorem dX9_whatIs_58 : decode cX9_whatIs 58 = .ok (.aload_n 0, 1) := by decide +kernel
theorem dX9_whatIs_59 : decode cX9_whatIs 59 = .ok (.iload_n 1, 1) := by decide +kernel
theorem dX9_whatIs_60 : decode cX9_whatIs 60 = .ok (.iload_n 2, 1) := by decide +kernel
theorem dX9_whatIs_61 : decode cX9_whatIs 61 = .ok (.iload 5, 2) := by decide +kernel
theorem dX9_whatIs_63 : decode cX9_whatIs 63 = .ok (.invokevirtual 335, 3) := by decide +kernel
theorem dX9_whatIs_66 : decode cX9_whatIs 66 = .ok (.ifCond .eq 10, 3) := by decide +kernel
theorem dX9_whatIs_69 : decode cX9_whatIs 69 = .ok (.iload_n 3, 1) := by decide +kernel
theorem dX9_whatIs_70 : decode cX9_whatIs 70 = .ok (.iconst 1, 1) := by decide +kernel
theorem dX9_whatIs_71 : decode cX9_whatIs 71 = .ok (.iload 5, 2) := by decide +kernel
theorem dX9_whatIs_73 : decode cX9_whatIs 73 = .ok (.ishl, 1) := by decide +kernel
theorem dX9_whatIs_74 : decode cX9_whatIs 74 = .ok (.ior, 1) := by decide +kernel
theorem dX9_whatIs_75 : decode cX9_whatIs 75 = .ok (.istore_n 3, 1) := by decide +kernel
theorem dX9_whatIs_76 : decode cX9_whatIs 76 = .ok (.iinc 5 1, 3) := by decide +kernel
theorem dX9_whatIs_79 : decode cX9_whatIs 79 = .ok (.goto (-28), 3) := by decide +kernel
theorem dX9_whatIs_82 : decode cX9_whatIs 82 = .ok (.iload_n 3, 1) := by decide +kernel
theorem dX9_whatIs_83 : decode cX9_whatIs 83 = .ok (.ireturn, 1) := by decide +kernel
theorem dX9_beginsSo_0 : decode cX9_beginsSo 0 = .ok (.aload_n 0, 1) := by decide +kernel
theorem dX9_beginsSo_1 : decode cX9_beginsSo 1 = .ok (.getfield 16, 3) := by decide +kernel
theorem dX9_beginsSo_4 : decode cX9_beginsSo 4 = .ok (.aload_n 0, 1) := by decide +kernel
theorem dX9_beginsSo_5 : decode cX9_beginsSo 5 = .ok (.getfield 12, 3) := by decide +kernel
theorem dX9_beginsSo_8 : decode cX9_beginsSo 8 = .ok (.invokevirtual 107, 3) := by decide +kernel
theorem dX9_beginsSo_11 : decode cX9_beginsSo 11 = .ok (.iload_n 2, 1) := by decide +kernel
theorem dX9_beginsSo_12 : decode cX9_beginsSo 12 = .ok (.ifCond .ne 16, 3) := by decide +kernel
theorem dX9_beginsSo_15 : decode cX9_beginsSo 15 = .ok (.aload_n 0, 1) := by decide +kernel
theorem dX9_beginsSo_16 : decode cX9_beginsSo 16 = .ok (.getfield 16, 3) := by decide +kernel
theorem dX9_beginsSo_19 : decode cX9_beginsSo 19 = .ok (.getfield 139, 3) := by decide +kernel
theorem dX9_beginsSo_22 : decode cX9_beginsSo 22 = .ok (.iload_n 1, 1) := by decide +kernel
theorem dX9_beginsSo_23 : decode cX9_beginsSo 23 = .ok (.iload_n 3, 1) := by decide +kernel
theorem dX9_beginsSo_24 : decode cX9_beginsSo 24 = .ok (.iastore, 1) := by decide +kernel
theorem dX9_beginsSo_25 : decode cX9_beginsSo 25 = .ok (.goto 13, 3) := by decide +kernel
theorem dX9_beginsSo_28 : decode cX9_beginsSo 28 = .ok (.aload_n 0, 1) := by decide +kernel
theorem dX9_beginsSo_29 : decode cX9_beginsSo 29 = .ok (.getfield 16, 3) := by decide +kernel
theorem dX9_beginsSo_32 : decode cX9_beginsSo 32 = .ok (.getfield 142, 3) := by decide +kernel
theorem dX9_beginsSo_35 : decode cX9_beginsSo 35 = .ok (.iload_n 1, 1) := by decide +kernel
theorem dX9_beginsSo_36 : decode cX9_beginsSo 36 = .ok (.iload_n 3, 1) := by decide +kernel
theorem dX9_beginsSo_37 : decode cX9_beginsSo 37 = .ok (.iastore, 1) := by decide +kernel
theorem dX9_beginsSo_38 : decode cX9_beginsSo 38 = .ok (.aload_n 0, 1) := by decide +kernel
theorem dX9_beginsSo_39 : decode cX9_beginsSo 39 = .ok (.getfield 36, 3) := by decide +kernel
theorem dX9_beginsSo_42 : decode cX9_beginsSo 42 = .ok (.aload_n 0, 1) := by decide +kernel
theorem dX9_beginsSo_43 : decode cX9_beginsSo 43 = .ok (.getfield 16, 3) := by decide +kernel
theorem dX9_beginsSo_46 : decode cX9_beginsSo 46 = .ok (.invokevirtual 184, 3) := by decide +kernel
theorem dX9_beginsSo_49 : decode cX9_beginsSo 49 = .ok (.aload_n 0, 1) := by decide +kernel
theorem dX9_beginsSo_50 : decode cX9_beginsSo 50 = .ok (.getfield 36, 3) := by decide +kernel
theorem dX9_beginsSo_53 : decode cX9_beginsSo 53 = .ok (.invokevirtual 187, 3) := by decide +kernel
theorem dX9_beginsSo_56 : decode cX9_beginsSo 56 = .ok (.ifCond .eq 18, 3) := by decide +kernel
theorem dX9_beginsSo_59 : decode cX9_beginsSo 59 = .ok (.aload_n 0, 1) := by decide +kernel
theorem dX9_beginsSo_60 : decode cX9_beginsSo 60 = .ok (.invokevirtual 339, 3) := by decide +kernel
theorem dX9_beginsSo_63 : decode cX9_beginsSo 63 = .ok (.aload_n 0, 1) := by decide +kernel
theorem dX9_beginsSo_64 : decode cX9_beginsSo 64 = .ok (.getfield 79, 3) := by decide +kernel
theorem dX9_beginsSo_67 : decode cX9_beginsSo 67 = .ok (.if_icmp .ne 7, 3) := by decide +kernel
theorem dX9_beginsSo_70 : decode cX9_beginsSo 70 = .ok (.iconst 1, 1) := by decide +kernel
theorem dX9_beginsSo_71 : decode cX9_beginsSo 71 = .ok (.goto 4, 3) := by decide +kernel
theorem dX9_beginsSo_74 : decode cX9_beginsSo 74 = .ok (.iconst 0, 1) := by decide +kernel
theorem dX9_beginsSo_75 : decode cX9_beginsSo 75 = .ok (.ireturn, 1) := by decide +kernel
theorem dX9_sameCorners_0 : decode cX9_sameCorners 0 = .ok (.iconst 0, 1) := by decide +kernel
theorem dX9_sameCorners_1 : decode cX9_sameCorners 1 = .ok (.istore_n 1, 1) := by decide +kernel
theorem dX9_sameCorners_2 : decode cX9_sameCorners 2 = .ok (.iload_n 1, 1) := by decide +kernel
theorem dX9_sameCorners_3 : decode cX9_sameCorners 3 = .ok (.aload_n 0, 1) := by decide +kernel
theorem dX9_sameCorners_4 : decode cX9_sameCorners 4 = .ok (.getfield 79, 3) := by decide +kernel
theorem dX9_sameCorners_7 : decode cX9_sameCorners 7 = .ok (.if_icmp .ge 38, 3) := by decide +kernel
theorem dX9_sameCorners_10 : decode cX9_sameCorners 10 = .ok (.iload_n 1, 1) := by decide +kernel
theorem dX9_sameCorners_11 : decode cX9_sameCorners 11 = .ok (.aload_n 0, 1) := by decide +kernel
theorem dX9_sameCorners_12 : decode cX9_sameCorners 12 = .ok (.getfield 36, 3) := by decide +kernel
theorem dX9_sameCorners_15 : decode cX9_sameCorners 15 = .ok (.invokevirtual 342, 3) := by decide +kernel
theorem dX9_sameCorners_18 : decode cX9_sameCorners 18 = .ok (.if_icmp .ge 27, 3) := by decide +kernel
theorem dX9_sameCorners_21 : decode cX9_sameCorners 21 = .ok (.aload_n 0, 1) := by decide +kernel
theorem dX9_sameCorners_22 : decode cX9_sameCorners 22 = .ok (.getfield 75, 3) := by decide +kernel
theorem dX9_sameCorners_25 : decode cX9_sameCorners 25 = .ok (.iload_n 1, 1) := by decide +kernel
theorem dX9_sameCorners_26 : decode cX9_sameCorners 26 = .ok (.iaload, 1) := by decide +kernel
theorem dX9_sameCorners_27 : decode cX9_sameCorners 27 = .ok (.aload_n 0, 1) := by decide +kernel
theorem dX9_sameCorners_28 : decode cX9_sameCorners 28 = .ok (.getfield 36, 3) := by decide +kernel
theorem dX9_sameCorners_31 : decode cX9_sameCorners 31 = .ok (.getfield 204, 3) := by decide +kernel
theorem dX9_sameCorners_34 : decode cX9_sameCorners 34 = .ok (.iload_n 1, 1) := by decide +kernel
theorem dX9_sameCorners_35 : decode cX9_sameCorners 35 = .ok (.iaload, 1) := by decide +kernel
theorem dX9_sameCorners_36 : decode cX9_sameCorners 36 = .ok (.if_icmp .ne 9, 3) := by decide +kernel
theorem dX9_sameCorners_39 : decode cX9_sameCorners 39 = .ok (.iinc 1 1, 3) := by decide +kernel
theorem dX9_sameCorners_42 : decode cX9_sameCorners 42 = .ok (.goto (-40), 3) := by decide +kernel
theorem dX9_sameCorners_45 : decode cX9_sameCorners 45 = .ok (.iload_n 1, 1) := by decide +kernel
theorem dX9_sameCorners_46 : decode cX9_sameCorners 46 = .ok (.ireturn, 1) := by decide +kernel
theorem dX9_row_0 : decode cX9_row 0 = .ok (.iload_n 1, 1) := by decide +kernel
theorem dX9_row_1 : decode cX9_row 1 = .ok (.ifCond .ge 10, 3) := by decide +kernel
theorem dX9_row_4 : decode cX9_row 4 = .ok (.aload_n 0, 1) := by decide +kernel
theorem dX9_row_5 : decode cX9_row 5 = .ok (.bipush (-4), 2) := by decide +kernel
theorem dX9_row_7 : decode cX9_row 7 = .ok (.invokevirtual 86, 3) := by decide +kernel
theorem dX9_row_10 : decode cX9_row 10 = .ok (.ireturn, 1) := by decide +kernel
theorem dX9_row_11 : decode cX9_row 11 = .ok (.iload_n 1, 1) := by decide +kernel
theorem dX9_row_12 : decode cX9_row 12 = .ok (.bipush 9, 2) := by decide +kernel
theorem dX9_row_14 : decode cX9_row 14 = .ok (.if_icmp .gt 12, 3) := by decide +kernel
theorem dX9_row_17 : decode cX9_row 17 = .ok (.aload_n 0, 1) := by decide +kernel
theorem dX9_row_18 : decode cX9_row 18 = .ok (.getfield 79, 3) := by decide +kernel
theorem dX9_row_21 : decode cX9_row 21 = .ok (.bipush 32, 2) := by decide +kernel
theorem dX9_row_23 : decode cX9_row 23 = .ok (.if_icmp .lt 10, 3) := by decide +kernel
theorem dX9_row_26 : decode cX9_row 26 = .ok (.aload_n 0, 1) := by decide +kernel
theorem dX9_row_27 : decode cX9_row 27 = .ok (.bipush (-6), 2) := by decide +kernel
theorem dX9_row_29 : decode cX9_row 29 = .ok (.invokevirtual 86, 3) := by decide +kernel
theorem dX9_row_32 : decode cX9_row 32 = .ok (.ireturn, 1) := by decide +kernel
theorem dX9_row_33 : decode cX9_row 33 = .ok (.aload_n 0, 1) := by decide +kernel
theorem dX9_row_34 : decode cX9_row 34 = .ok (.getfield 75, 3) := by decide +kernel
theorem dX9_row_37 : decode cX9_row 37 = .ok (.aload_n 0, 1) := by decide +kernel
theorem dX9_row_38 : decode cX9_row 38 = .ok (.getfield 79, 3) := by decide +kernel
theorem dX9_row_41 : decode cX9_row 41 = .ok (.iload_n 1, 1) := by decide +kernel
theorem dX9_row_42 : decode cX9_row 42 = .ok (.iastore, 1) := by decide +kernel
theorem dX9_row_43 : decode cX9_row 43 = .ok (.aload_n 0, 1) := by decide +kernel
theorem dX9_row_44 : decode cX9_row 44 = .ok (.dup, 1) := by decide +kernel
theorem dX9_row_45 : decode cX9_row 45 = .ok (.getfield 79, 3) := by decide +kernel
theorem dX9_row_48 : decode cX9_row 48 = .ok (.iconst 1, 1) := by decide +kernel
theorem dX9_row_49 : decode cX9_row 49 = .ok (.iadd, 1) := by decide +kernel
theorem dX9_row_50 : decode cX9_row 50 = .ok (.putfield 79, 3) := by decide +kernel
theorem dX9_row_53 : decode cX9_row 53 = .ok (.aload_n 0, 1) := by decide +kernel
theorem dX9_row_54 : decode cX9_row 54 = .ok (.getfield 79, 3) := by decide +kernel
theorem dX9_row_57 : decode cX9_row 57 = .ok (.ireturn, 1) := by decide +kernel
theorem dX9_judge_0 : decode cX9_judge 0 = .ok (.aload_n 0, 1) := by decide +kernel
theorem dX9_judge_1 : decode cX9_judge 1 = .ok (.getfield 36, 3) := by decide +kernel
theorem dX9_judge_4 : decode cX9_judge 4 = .ok (.aload_n 0, 1) := by decide +kernel
theorem dX9_judge_5 : decode cX9_judge 5 = .ok (.getfield 12, 3) := by decide +kernel
theorem dX9_judge_8 : decode cX9_judge 8 = .ok (.invokevirtual 184, 3) := by decide +kernel
theorem dX9_judge_11 : decode cX9_judge 11 = .ok (.aload_n 0, 1) := by decide +kernel
theorem dX9_judge_12 : decode cX9_judge 12 = .ok (.invokevirtual 339, 3) := by decide +kernel
theorem dX9_judge_15 : decode cX9_judge 15 = .ok (.istore_n 1, 1) := by decide +kernel
theorem dX9_judge_16 : decode cX9_judge 16 = .ok (.iload_n 1, 1) := by decide +kernel
theorem dX9_judge_17 : decode cX9_judge 17 = .ok (.aload_n 0, 1) := by decide +kernel
theorem dX9_judge_18 : decode cX9_judge 18 = .ok (.getfield 79, 3) := by decide +kernel
theorem dX9_judge_21 : decode cX9_judge 21 = .ok (.if_icmp .ne 18, 3) := by decide +kernel
theorem dX9_judge_24 : decode cX9_judge 24 = .ok (.iload_n 1, 1) := by decide +kernel
theorem dX9_judge_25 : decode cX9_judge 25 = .ok (.aload_n 0, 1) := by decide +kernel
theorem dX9_judge_26 : decode cX9_judge 26 = .ok (.getfield 36, 3) := by decide +kernel
theorem dX9_judge_29 : decode cX9_judge 29 = .ok (.invokevirtual 342, 3) := by decide +kernel
theorem dX9_judge_32 : decode cX9_judge 32 = .ok (.if_icmp .ne 7, 3) := by decide +kernel
theorem dX9_judge_35 : decode cX9_judge 35 = .ok (.iconst 1, 1) := by decide +kernel
theorem dX9_judge_36 : decode cX9_judge 36 = .ok (.goto 4, 3) := by decide +kernel
theorem dX9_judge_39 : decode cX9_judge 39 = .ok (.iconst 0, 1) := by decide +kernel
theorem dX9_judge_40 : decode cX9_judge 40 = .ok (.istore_n 2, 1) := by decide +kernel
theorem dX9_judge_41 : decode cX9_judge 41 = .ok (.aload_n 0, 1) := by decide +kernel
theorem dX9_judge_42 : decode cX9_judge 42 = .ok (.iconst 0, 1) := by decide +kernel
theorem dX9_judge_43 : decode cX9_judge 43 = .ok (.putfield 79, 3) := by decide +kernel
theorem dX9_judge_46 : decode cX9_judge 46 = .ok (.iload_n 2, 1) := by decide +kernel
theorem dX9_judge_47 : decode cX9_judge 47 = .ok (.ifCond .eq 8, 3) := by decide +kernel
theorem dX9_judge_50 : decode cX9_judge 50 = .ok (.bipush (-9), 2) := by decide +kernel
theorem dX9_judge_52 : decode cX9_judge 52 = .ok (.goto 4, 3) := by decide +kernel
theorem dX9_judge_55 : decode cX9_judge 55 = .ok (.iload_n 1, 1) := by decide +kernel
theorem dX9_judge_56 : decode cX9_judge 56 = .ok (.ireturn, 1) := by decide +kernel
theorem dX9_clear_0 : decode cX9_clear 0 = .ok (.aload_n 0, 1) := by decide +kernel
theorem dX9_clear_1 : decode cX9_clear 1 = .ok (.getfield 79, 3) := by decide +kernel
theorem dX9_clear_4 : decode cX9_clear 4 = .ok (.istore_n 1, 1) := by decide +kernel
theorem dX9_clear_5 : decode cX9_clear 5 = .ok (.aload_n 0, 1) := by decide +kernel
theorem dX9_clear_6 : decode cX9_clear 6 = .ok (.iconst 0, 1) := by decide +kernel
theorem dX9_clear_7 : decode cX9_clear 7 = .ok (.putfield 79, 3) := by decide +kernel
theorem dX9_clear_10 : decode cX9_clear 10 = .ok (.iload_n 1, 1) := by decide +kernel
theorem dX9_clear_11 : decode cX9_clear 11 = .ok (.ireturn, 1) := by decide +kernel
theorem dX9_lots_0 : decode cX9_lots 0 = .ok (.iload_n 1, 1) := by decide +kernel
theorem dX9_lots_1 : decode cX9_lots 1 = .ok (.iconst 1, 1) := by decide +kernel
theorem dX9_lots_2 : decode cX9_lots 2 = .ok (.if_icmp .ge 10, 3) := by decide +kernel
theorem dX9_lots_5 : decode cX9_lots 5 = .ok (.aload_n 0, 1) := by decide +kernel
theorem dX9_lots_6 : decode cX9_lots 6 = .ok (.bipush (-4), 2) := by decide +kernel
theorem dX9_lots_8 : decode cX9_lots 8 = .ok (.invokevirtual 86, 3) := by decide +kernel
theorem dX9_lots_11 : decode cX9_lots 11 = .ok (.ireturn, 1) := by decide +kernel
theorem dX9_lots_12 : decode cX9_lots 12 = .ok (.iload_n 1, 1) := by decide +kernel
theorem dX9_lots_13 : decode cX9_lots 13 = .ok (.bipush 20, 2) := by decide +kernel
theorem dX9_lots_15 : decode cX9_lots 15 = .ok (.if_icmp .le 10, 3) := by decide +kernel
theorem dX9_lots_18 : decode cX9_lots 18 = .ok (.aload_n 0, 1) := by decide +kernel
theorem dX9_lots_19 : decode cX9_lots 19 = .ok (.bipush (-6), 2) := by decide +kernel
theorem dX9_lots_21 : decode cX9_lots 21 = .ok (.invokevirtual 86, 3) := by decide +kernel
theorem dX9_lots_24 : decode cX9_lots 24 = .ok (.ireturn, 1) := by decide +kernel
theorem dX9_lots_25 : decode cX9_lots 25 = .ok (.iload_n 3, 1) := by decide +kernel
theorem dX9_lots_26 : decode cX9_lots 26 = .ok (.ifCond .eq 15, 3) := by decide +kernel
theorem dX9_lots_29 : decode cX9_lots 29 = .ok (.iload_n 3, 1) := by decide +kernel
theorem dX9_lots_30 : decode cX9_lots 30 = .ok (.iconst 1, 1) := by decide +kernel
theorem dX9_lots_31 : decode cX9_lots 31 = .ok (.if_icmp .eq 10, 3) := by decide +kernel
theorem dX9_lots_34 : decode cX9_lots 34 = .ok (.aload_n 0, 1) := by decide +kernel
theorem dX9_lots_35 : decode cX9_lots 35 = .ok (.bipush (-2), 2) := by decide +kernel
theorem dX9_lots_37 : decode cX9_lots 37 = .ok (.invokevirtual 86, 3) := by decide +kernel
theorem dX9_lots_40 : decode cX9_lots 40 = .ok (.ireturn, 1) := by decide +kernel
theorem dX9_lots_41 : decode cX9_lots 41 = .ok (.iload_n 2, 1) := by decide +kernel
theorem dX9_lots_42 : decode cX9_lots 42 = .ok (.istore 4, 2) := by decide +kernel
theorem dX9_lots_44 : decode cX9_lots 44 = .ok (.iconst 0, 1) := by decide +kernel
theorem dX9_lots_45 : decode cX9_lots 45 = .ok (.istore 5, 2) := by decide +kernel
theorem dX9_lots_47 : decode cX9_lots 47 = .ok (.iconst 0, 1) := by decide +kernel
theorem dX9_lots_48 : decode cX9_lots 48 = .ok (.istore 6, 2) := by decide +kernel
theorem dX9_lots_50 : decode cX9_lots 50 = .ok (.aload_n 0, 1) := by decide +kernel
theorem dX9_lots_51 : decode cX9_lots 51 = .ok (.getfield 16, 3) := by decide +kernel
theorem dX9_lots_54 : decode cX9_lots 54 = .ok (.aload_n 0, 1) := by decide +kernel
theorem dX9_lots_55 : decode cX9_lots 55 = .ok (.getfield 12, 3) := by decide +kernel
theorem dX9_lots_58 : decode cX9_lots 58 = .ok (.invokevirtual 107, 3) := by decide +kernel
theorem dX9_lots_61 : decode cX9_lots 61 = .ok (.iconst 0, 1) := by decide +kernel
theorem dX9_lots_62 : decode cX9_lots 62 = .ok (.istore 7, 2) := by decide +kernel
theorem dX9_lots_64 : decode cX9_lots 64 = .ok (.iload 7, 2) := by decide +kernel
theorem dX9_lots_66 : decode cX9_lots 66 = .ok (.iload_n 1, 1) := by decide +kernel
theorem dX9_lots_67 : decode cX9_lots 67 = .ok (.if_icmp .ge 40, 3) := by decide +kernel
theorem dX9_lots_70 : decode cX9_lots 70 = .ok (.aload_n 0, 1) := by decide +kernel
theorem dX9_lots_71 : decode cX9_lots 71 = .ok (.iload 4, 2) := by decide +kernel
theorem dX9_lots_73 : decode cX9_lots 73 = .ok (.invokevirtual 345, 3) := by decide +kernel
theorem dX9_lots_76 : decode cX9_lots 76 = .ok (.istore 4, 2) := by decide +kernel
theorem dX9_lots_78 : decode cX9_lots 78 = .ok (.aload_n 0, 1) := by decide +kernel
theorem dX9_lots_79 : decode cX9_lots 79 = .ok (.invokevirtual 289, 3) := by decide +kernel
theorem dX9_lots_82 : decode cX9_lots 82 = .ok (.istore 8, 2) := by decide +kernel
theorem dX9_lots_84 : decode cX9_lots 84 = .ok (.iload 8, 2) := by decide +kernel
theorem dX9_lots_86 : decode cX9_lots 86 = .ok (.ldc 180, 2) := by decide +kernel
theorem dX9_lots_88 : decode cX9_lots 88 = .ok (.if_icmp .ge 13, 3) := by decide +kernel
theorem dX9_lots_91 : decode cX9_lots 91 = .ok (.iinc 5 1, 3) := by decide +kernel
theorem dX9_lots_94 : decode cX9_lots 94 = .ok (.iload 6, 2) := by decide +kernel
theorem dX9_lots_96 : decode cX9_lots 96 = .ok (.iload 8, 2) := by decide +kernel
theorem dX9_lots_98 : decode cX9_lots 98 = .ok (.iadd, 1) := by decide +kernel
theorem dX9_lots_99 : decode cX9_lots 99 = .ok (.istore 6, 2) := by decide +kernel
theorem dX9_lots_101 : decode cX9_lots 101 = .ok (.iinc 7 1, 3) := by decide +kernel
theorem dX9_lots_104 : decode cX9_lots 104 = .ok (.goto (-40), 3) := by decide +kernel
theorem dX9_lots_107 : decode cX9_lots 107 = .ok (.iload_n 3, 1) := by decide +kernel
theorem dX9_lots_108 : decode cX9_lots 108 = .ok (.ifCond .ne 8, 3) := by decide +kernel
theorem dX9_lots_111 : decode cX9_lots 111 = .ok (.iload 5, 2) := by decide +kernel
theorem dX9_lots_113 : decode cX9_lots 113 = .ok (.goto 5, 3) := by decide +kernel
theorem dX9_lots_116 : decode cX9_lots 116 = .ok (.iload 6, 2) := by decide +kernel
theorem dX9_lots_118 : decode cX9_lots 118 = .ok (.ireturn, 1) := by decide +kernel
theorem dX9_drawLengths_0 : decode cX9_drawLengths 0 = .ok (.iload_n 1, 1) := by decide +kernel
theorem dX9_drawLengths_1 : decode cX9_drawLengths 1 = .ok (.istore_n 2, 1) := by decide +kernel
theorem dX9_drawLengths_2 : decode cX9_drawLengths 2 = .ok (.iconst 0, 1) := by decide +kernel
theorem dX9_drawLengths_3 : decode cX9_drawLengths 3 = .ok (.istore_n 3, 1) := by decide +kernel
theorem dX9_drawLengths_4 : decode cX9_drawLengths 4 = .ok (.iload_n 3, 1) := by decide +kernel
theorem dX9_drawLengths_5 : decode cX9_drawLengths 5 = .ok (.aload_n 0, 1) := by decide +kernel
theorem dX9_drawLengths_6 : decode cX9_drawLengths 6 = .ok (.getfield 16, 3) := by decide +kernel
theorem dX9_drawLengths_9 : decode cX9_drawLengths 9 = .ok (.getfield 122, 3) := by decide +kernel
theorem dX9_drawLengths_12 : decode cX9_drawLengths 12 = .ok (.if_icmp .ge 41, 3) := by decide +kernel
theorem dX9_drawLengths_15 : decode cX9_drawLengths 15 = .ok (.iload_n 2, 1) := by decide +kernel
theorem dX9_drawLengths_16 : decode cX9_drawLengths 16 = .ok (.ldc_w 348, 3) := by decide +kernel
theorem dX9_drawLengths_19 : decode cX9_drawLengths 19 = .ok (.imul, 1) := by decide +kernel
theorem dX9_drawLengths_20 : decode cX9_drawLengths 20 = .ok (.ldc_w 349, 3) := by decide +kernel
theorem dX9_drawLengths_23 : decode cX9_drawLengths 23 = .ok (.iadd, 1) := by decide +kernel
theorem dX9_drawLengths_24 : decode cX9_drawLengths 24 = .ok (.istore_n 2, 1) := by decide +kernel
theorem dX9_drawLengths_25 : decode cX9_drawLengths 25 = .ok (.aload_n 0, 1) := by decide +kernel
theorem dX9_drawLengths_26 : decode cX9_drawLengths 26 = .ok (.getfield 16, 3) := by decide +kernel
theorem dX9_drawLengths_29 : decode cX9_drawLengths 29 = .ok (.getfield 136, 3) := by decide +kernel
theorem dX9_drawLengths_32 : decode cX9_drawLengths 32 = .ok (.iload_n 3, 1) := by decide +kernel
theorem dX9_drawLengths_33 : decode cX9_drawLengths 33 = .ok (.iconst 1, 1) := by decide +kernel
theorem dX9_drawLengths_34 : decode cX9_drawLengths 34 = .ok (.iload_n 2, 1) := by decide +kernel
theorem dX9_drawLengths_35 : decode cX9_drawLengths 35 = .ok (.ldc 234, 2) := by decide +kernel
theorem dX9_drawLengths_37 : decode cX9_drawLengths 37 = .ok (.iand, 1) := by decide +kernel
theorem dX9_drawLengths_38 : decode cX9_drawLengths 38 = .ok (.sipush 256, 3) := by decide +kernel
theorem dX9_drawLengths_41 : decode cX9_drawLengths 41 = .ok (.idiv, 1) := by decide +kernel
theorem dX9_drawLengths_42 : decode cX9_drawLengths 42 = .ok (.bipush 99, 2) := by decide +kernel
theorem dX9_drawLengths_44 : decode cX9_drawLengths 44 = .ok (.irem, 1) := by decide +kernel
theorem dX9_drawLengths_45 : decode cX9_drawLengths 45 = .ok (.iadd, 1) := by decide +kernel
theorem dX9_drawLengths_46 : decode cX9_drawLengths 46 = .ok (.iastore, 1) := by decide +kernel
theorem dX9_drawLengths_47 : decode cX9_drawLengths 47 = .ok (.iinc 3 1, 3) := by decide +kernel
theorem dX9_drawLengths_50 : decode cX9_drawLengths 50 = .ok (.goto (-46), 3) := by decide +kernel
theorem dX9_drawLengths_53 : decode cX9_drawLengths 53 = .ok (.iload_n 2, 1) := by decide +kernel
theorem dX9_drawLengths_54 : decode cX9_drawLengths 54 = .ok (.ireturn, 1) := by decide +kernel
theorem dX9_image_0 : decode cX9_image 0 = .ok (.aload_n 0, 1) := by decide +kernel
theorem dX9_image_1 : decode cX9_image 1 = .ok (.getfield 19, 3) := by decide +kernel
theorem dX9_image_4 : decode cX9_image 4 = .ok (.aload_n 0, 1) := by decide +kernel
theorem dX9_image_5 : decode cX9_image 5 = .ok (.getfield 12, 3) := by decide +kernel
theorem dX9_image_8 : decode cX9_image 8 = .ok (.invokevirtual 107, 3) := by decide +kernel
theorem dX9_image_11 : decode cX9_image 11 = .ok (.aload_n 0, 1) := by decide +kernel
theorem dX9_image_12 : decode cX9_image 12 = .ok (.iconst 1, 1) := by decide +kernel
theorem dX9_image_13 : decode cX9_image 13 = .ok (.putfield 22, 3) := by decide +kernel
theorem dX9_image_16 : decode cX9_image 16 = .ok (.aload_n 0, 1) := by decide +kernel
theorem dX9_image_17 : decode cX9_image 17 = .ok (.getfield 19, 3) := by decide +kernel
theorem dX9_image_20 : decode cX9_image 20 = .ok (.getfield 122, 3) := by decide +kernel
theorem dX9_image_23 : decode cX9_image 23 = .ok (.ireturn, 1) := by decide +kernel
theorem dX9_on_0 : decode cX9_on 0 = .ok (.aload_n 0, 1) := by decide +kernel
theorem dX9_on_1 : decode cX9_on 1 = .ok (.getfield 22, 3) := by decide +kernel
theorem dX9_on_4 : decode cX9_on 4 = .ok (.ifCond .ne 10, 3) := by decide +kernel
