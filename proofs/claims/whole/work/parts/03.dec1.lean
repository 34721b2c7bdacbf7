theorem dJxe99ae_isNaN_b9ae7_0 : decode cJxe99ae_isNaN_b9ae7 0 = .ok (.dload_n 0, 1) := by decide +kernel
theorem dJxe99ae_isNaN_b9ae7_1 : decode cJxe99ae_isNaN_b9ae7 1 = .ok (.dload_n 0, 1) := by decide +kernel
theorem dJxe99ae_isNaN_b9ae7_2 : decode cJxe99ae_isNaN_b9ae7 2 = .ok (.dcmp .l, 1) := by decide +kernel
theorem dJxe99ae_isNaN_b9ae7_3 : decode cJxe99ae_isNaN_b9ae7 3 = .ok (.ifCond .eq 7, 3) := by decide +kernel
theorem dJxe99ae_isNaN_b9ae7_6 : decode cJxe99ae_isNaN_b9ae7 6 = .ok (.iconst 1, 1) := by decide +kernel
theorem dJxe99ae_isNaN_b9ae7_7 : decode cJxe99ae_isNaN_b9ae7 7 = .ok (.goto 4, 3) := by decide +kernel
theorem dJxe99ae_isNaN_b9ae7_10 : decode cJxe99ae_isNaN_b9ae7 10 = .ok (.iconst 0, 1) := by decide +kernel
theorem dJxe99ae_isNaN_b9ae7_11 : decode cJxe99ae_isNaN_b9ae7 11 = .ok (.ireturn, 1) := by decide +kernel
theorem dJxe99ae_doubleToLongBits_ccdee_0 : decode cJxe99ae_doubleToLongBits_ccdee 0 = .ok (.dload_n 0, 1) := by decide +kernel
theorem dJxe99ae_doubleToLongBits_ccdee_1 : decode cJxe99ae_doubleToLongBits_ccdee 1 = .ok (.invokestatic 122, 3) := by decide +kernel
theorem dJxe99ae_doubleToLongBits_ccdee_4 : decode cJxe99ae_doubleToLongBits_ccdee 4 = .ok (.ifCond .ne 8, 3) := by decide +kernel
theorem dJxe99ae_doubleToLongBits_ccdee_7 : decode cJxe99ae_doubleToLongBits_ccdee 7 = .ok (.dload_n 0, 1) := by decide +kernel
theorem dJxe99ae_doubleToLongBits_ccdee_8 : decode cJxe99ae_doubleToLongBits_ccdee 8 = .ok (.invokestatic 134, 3) := by decide +kernel
theorem dJxe99ae_doubleToLongBits_ccdee_11 : decode cJxe99ae_doubleToLongBits_ccdee 11 = .ok (.lreturn, 1) := by decide +kernel
theorem dJxe99ae_doubleToLongBits_ccdee_12 : decode cJxe99ae_doubleToLongBits_ccdee 12 = .ok (.ldc2_w 137, 3) := by decide +kernel
theorem dJxe99ae_doubleToLongBits_ccdee_15 : decode cJxe99ae_doubleToLongBits_ccdee 15 = .ok (.lreturn, 1) := by decide +kernel
theorem dJxf58ca_isNaN_12338_0 : decode cJxf58ca_isNaN_12338 0 = .ok (.fload_n 0, 1) := by decide +kernel
theorem dJxf58ca_isNaN_12338_1 : decode cJxf58ca_isNaN_12338 1 = .ok (.fload_n 0, 1) := by decide +kernel
theorem dJxf58ca_isNaN_12338_2 : decode cJxf58ca_isNaN_12338 2 = .ok (.fcmp .l, 1) := by decide +kernel
theorem dJxf58ca_isNaN_12338_3 : decode cJxf58ca_isNaN_12338 3 = .ok (.ifCond .eq 7, 3) := by decide +kernel
theorem dJxf58ca_isNaN_12338_6 : decode cJxf58ca_isNaN_12338 6 = .ok (.iconst 1, 1) := by decide +kernel
theorem dJxf58ca_isNaN_12338_7 : decode cJxf58ca_isNaN_12338 7 = .ok (.goto 4, 3) := by decide +kernel
theorem dJxf58ca_isNaN_12338_10 : decode cJxf58ca_isNaN_12338 10 = .ok (.iconst 0, 1) := by decide +kernel
theorem dJxf58ca_isNaN_12338_11 : decode cJxf58ca_isNaN_12338 11 = .ok (.ireturn, 1) := by decide +kernel
theorem dJxf58ca_floatToIntBits_5c35a_0 : decode cJxf58ca_floatToIntBits_5c35a 0 = .ok (.fload_n 0, 1) := by decide +kernel
theorem dJxf58ca_floatToIntBits_5c35a_1 : decode cJxf58ca_floatToIntBits_5c35a 1 = .ok (.invokestatic 59, 3) := by decide +kernel
theorem dJxf58ca_floatToIntBits_5c35a_4 : decode cJxf58ca_floatToIntBits_5c35a 4 = .ok (.ifCond .ne 8, 3) := by decide +kernel
theorem dJxf58ca_floatToIntBits_5c35a_7 : decode cJxf58ca_floatToIntBits_5c35a 7 = .ok (.fload_n 0, 1) := by decide +kernel
theorem dJxf58ca_floatToIntBits_5c35a_8 : decode cJxf58ca_floatToIntBits_5c35a 8 = .ok (.invokestatic 74, 3) := by decide +kernel
theorem dJxf58ca_floatToIntBits_5c35a_11 : decode cJxf58ca_floatToIntBits_5c35a 11 = .ok (.ireturn, 1) := by decide +kernel
theorem dJxf58ca_floatToIntBits_5c35a_12 : decode cJxf58ca_floatToIntBits_5c35a 12 = .ok (.ldc 77, 2) := by decide +kernel
theorem dJxf58ca_floatToIntBits_5c35a_14 : decode cJxf58ca_floatToIntBits_5c35a 14 = .ok (.ireturn, 1) := by decide +kernel
theorem dJxf58ca_compare_66c2b_0 : decode cJxf58ca_compare_66c2b 0 = .ok (.fload_n 0, 1) := by decide +kernel
theorem dJxf58ca_compare_66c2b_1 : decode cJxf58ca_compare_66c2b 1 = .ok (.fload_n 1, 1) := by decide +kernel
theorem dJxf58ca_compare_66c2b_2 : decode cJxf58ca_compare_66c2b 2 = .ok (.fcmp .g, 1) := by decide +kernel
theorem dJxf58ca_compare_66c2b_3 : decode cJxf58ca_compare_66c2b 3 = .ok (.ifCond .ge 5, 3) := by decide +kernel
theorem dJxf58ca_compare_66c2b_6 : decode cJxf58ca_compare_66c2b 6 = .ok (.iconst (-1), 1) := by decide +kernel
theorem dJxf58ca_compare_66c2b_7 : decode cJxf58ca_compare_66c2b 7 = .ok (.ireturn, 1) := by decide +kernel
theorem dJxf58ca_compare_66c2b_8 : decode cJxf58ca_compare_66c2b 8 = .ok (.fload_n 0, 1) := by decide +kernel
theorem dJxf58ca_compare_66c2b_9 : decode cJxf58ca_compare_66c2b 9 = .ok (.fload_n 1, 1) := by decide +kernel
theorem dJxf58ca_compare_66c2b_10 : decode cJxf58ca_compare_66c2b 10 = .ok (.fcmp .l, 1) := by decide +kernel
theorem dJxf58ca_compare_66c2b_11 : decode cJxf58ca_compare_66c2b 11 = .ok (.ifCond .le 5, 3) := by decide +kernel
theorem dJxf58ca_compare_66c2b_14 : decode cJxf58ca_compare_66c2b 14 = .ok (.iconst 1, 1) := by decide +kernel
theorem dJxf58ca_compare_66c2b_15 : decode cJxf58ca_compare_66c2b 15 = .ok (.ireturn, 1) := by decide +kernel
theorem dJxf58ca_compare_66c2b_16 : decode cJxf58ca_compare_66c2b 16 = .ok (.fload_n 0, 1) := by decide +kernel
theorem dJxf58ca_compare_66c2b_17 : decode cJxf58ca_compare_66c2b 17 = .ok (.invokestatic 71, 3) := by decide +kernel
theorem dJxf58ca_compare_66c2b_20 : decode cJxf58ca_compare_66c2b 20 = .ok (.istore_n 2, 1) := by decide +kernel
theorem dJxf58ca_compare_66c2b_21 : decode cJxf58ca_compare_66c2b 21 = .ok (.fload_n 1, 1) := by decide +kernel
theorem dJxf58ca_compare_66c2b_22 : decode cJxf58ca_compare_66c2b 22 = .ok (.invokestatic 71, 3) := by decide +kernel
theorem dJxf58ca_compare_66c2b_25 : decode cJxf58ca_compare_66c2b 25 = .ok (.istore_n 3, 1) := by decide +kernel
theorem dJxf58ca_compare_66c2b_26 : decode cJxf58ca_compare_66c2b 26 = .ok (.iload_n 2, 1) := by decide +kernel
theorem dJxf58ca_compare_66c2b_27 : decode cJxf58ca_compare_66c2b 27 = .ok (.iload_n 3, 1) := by decide +kernel
theorem dJxf58ca_compare_66c2b_28 : decode cJxf58ca_compare_66c2b 28 = .ok (.if_icmp .ne 7, 3) := by decide +kernel
theorem dJxf58ca_compare_66c2b_31 : decode cJxf58ca_compare_66c2b 31 = .ok (.iconst 0, 1) := by decide +kernel
theorem dJxf58ca_compare_66c2b_32 : decode cJxf58ca_compare_66c2b 32 = .ok (.goto 13, 3) := by decide +kernel
theorem dJxf58ca_compare_66c2b_35 : decode cJxf58ca_compare_66c2b 35 = .ok (.iload_n 2, 1) := by decide +kernel
theorem dJxf58ca_compare_66c2b_36 : decode cJxf58ca_compare_66c2b 36 = .ok (.iload_n 3, 1) := by decide +kernel
theorem dJxf58ca_compare_66c2b_37 : decode cJxf58ca_compare_66c2b 37 = .ok (.if_icmp .ge 7, 3) := by decide +kernel
theorem dJxf58ca_compare_66c2b_40 : decode cJxf58ca_compare_66c2b 40 = .ok (.iconst (-1), 1) := by decide +kernel
theorem dJxf58ca_compare_66c2b_41 : decode cJxf58ca_compare_66c2b 41 = .ok (.goto 4, 3) := by decide +kernel
theorem dJxf58ca_compare_66c2b_44 : decode cJxf58ca_compare_66c2b 44 = .ok (.iconst 1, 1) := by decide +kernel
theorem dJxf58ca_compare_66c2b_45 : decode cJxf58ca_compare_66c2b 45 = .ok (.ireturn, 1) := by decide +kernel
theorem dJ6_compare_7cf53_0 : decode cJ6_compare_7cf53 0 = .ok (.iload_n 0, 1) := by decide +kernel
theorem dJ6_compare_7cf53_1 : decode cJ6_compare_7cf53 1 = .ok (.iload_n 1, 1) := by decide +kernel
theorem dJ6_compare_7cf53_2 : decode cJ6_compare_7cf53 2 = .ok (.if_icmp .ge 7, 3) := by decide +kernel
theorem dJ6_compare_7cf53_5 : decode cJ6_compare_7cf53 5 = .ok (.iconst (-1), 1) := by decide +kernel
theorem dJ6_compare_7cf53_6 : decode cJ6_compare_7cf53 6 = .ok (.goto 13, 3) := by decide +kernel
theorem dJ6_compare_7cf53_9 : decode cJ6_compare_7cf53 9 = .ok (.iload_n 0, 1) := by decide +kernel
theorem dJ6_compare_7cf53_10 : decode cJ6_compare_7cf53 10 = .ok (.iload_n 1, 1) := by decide +kernel
theorem dJ6_compare_7cf53_11 : decode cJ6_compare_7cf53 11 = .ok (.if_icmp .ne 7, 3) := by decide +kernel
theorem dJ6_compare_7cf53_14 : decode cJ6_compare_7cf53 14 = .ok (.iconst 0, 1) := by decide +kernel
theorem dJ6_compare_7cf53_15 : decode cJ6_compare_7cf53 15 = .ok (.goto 4, 3) := by decide +kernel
theorem dJ6_compare_7cf53_18 : decode cJ6_compare_7cf53 18 = .ok (.iconst 1, 1) := by decide +kernel
theorem dJ6_compare_7cf53_19 : decode cJ6_compare_7cf53 19 = .ok (.ireturn, 1) := by decide +kernel
theorem dJ6_numberOfTrailingZeros_0f7a4_0 : decode cJ6_numberOfTrailingZeros_0f7a4 0 = .ok (.iload_n 0, 1) := by decide +kernel
theorem dJ6_numberOfTrailingZeros_0f7a4_1 : decode cJ6_numberOfTrailingZeros_0f7a4 1 = .ok (.iconst (-1), 1) := by decide +kernel
theorem dJ6_numberOfTrailingZeros_0f7a4_2 : decode cJ6_numberOfTrailingZeros_0f7a4 2 = .ok (.ixor, 1) := by decide +kernel
theorem dJ6_numberOfTrailingZeros_0f7a4_3 : decode cJ6_numberOfTrailingZeros_0f7a4 3 = .ok (.iload_n 0, 1) := by decide +kernel
theorem dJ6_numberOfTrailingZeros_0f7a4_4 : decode cJ6_numberOfTrailingZeros_0f7a4 4 = .ok (.iconst 1, 1) := by decide +kernel
theorem dJ6_numberOfTrailingZeros_0f7a4_5 : decode cJ6_numberOfTrailingZeros_0f7a4 5 = .ok (.isub, 1) := by decide +kernel
theorem dJ6_numberOfTrailingZeros_0f7a4_6 : decode cJ6_numberOfTrailingZeros_0f7a4 6 = .ok (.iand, 1) := by decide +kernel
theorem dJ6_numberOfTrailingZeros_0f7a4_7 : decode cJ6_numberOfTrailingZeros_0f7a4 7 = .ok (.istore_n 0, 1) := by decide +kernel
theorem dJ6_numberOfTrailingZeros_0f7a4_8 : decode cJ6_numberOfTrailingZeros_0f7a4 8 = .ok (.iload_n 0, 1) := by decide +kernel
theorem dJ6_numberOfTrailingZeros_0f7a4_9 : decode cJ6_numberOfTrailingZeros_0f7a4 9 = .ok (.ifCond .gt 8, 3) := by decide +kernel
theorem dJ6_numberOfTrailingZeros_0f7a4_12 : decode cJ6_numberOfTrailingZeros_0f7a4 12 = .ok (.iload_n 0, 1) := by decide +kernel
theorem dJ6_numberOfTrailingZeros_0f7a4_13 : decode cJ6_numberOfTrailingZeros_0f7a4 13 = .ok (.bipush 32, 2) := by decide +kernel
theorem dJ6_numberOfTrailingZeros_0f7a4_15 : decode cJ6_numberOfTrailingZeros_0f7a4 15 = .ok (.iand, 1) := by decide +kernel
theorem dJ6_numberOfTrailingZeros_0f7a4_16 : decode cJ6_numberOfTrailingZeros_0f7a4 16 = .ok (.ireturn, 1) := by decide +kernel
theorem dJ6_numberOfTrailingZeros_0f7a4_17 : decode cJ6_numberOfTrailingZeros_0f7a4 17 = .ok (.iconst 1, 1) := by decide +kernel
theorem dJ6_numberOfTrailingZeros_0f7a4_18 : decode cJ6_numberOfTrailingZeros_0f7a4 18 = .ok (.istore_n 1, 1) := by decide +kernel
theorem dJ6_numberOfTrailingZeros_0f7a4_19 : decode cJ6_numberOfTrailingZeros_0f7a4 19 = .ok (.iload_n 0, 1) := by decide +kernel
theorem dJ6_numberOfTrailingZeros_0f7a4_20 : decode cJ6_numberOfTrailingZeros_0f7a4 20 = .ok (.ldc_w 264, 3) := by decide +kernel
theorem dJ6_numberOfTrailingZeros_0f7a4_23 : decode cJ6_numberOfTrailingZeros_0f7a4 23 = .ok (.if_icmp .le 11, 3) := by decide +kernel
theorem dJ6_numberOfTrailingZeros_0f7a4_26 : decode cJ6_numberOfTrailingZeros_0f7a4 26 = .ok (.iinc 1 16, 3) := by decide +kernel
theorem dJ6_numberOfTrailingZeros_0f7a4_29 : decode cJ6_numberOfTrailingZeros_0f7a4 29 = .ok (.iload_n 0, 1) := by decide +kernel
theorem dJ6_numberOfTrailingZeros_0f7a4_30 : decode cJ6_numberOfTrailingZeros_0f7a4 30 = .ok (.bipush 16, 2) := by decide +kernel
theorem dJ6_numberOfTrailingZeros_0f7a4_32 : decode cJ6_numberOfTrailingZeros_0f7a4 32 = .ok (.iushr, 1) := by decide +kernel
theorem dJ6_numberOfTrailingZeros_0f7a4_33 : decode cJ6_numberOfTrailingZeros_0f7a4 33 = .ok (.istore_n 0, 1) := by decide +kernel
theorem dJ6_numberOfTrailingZeros_0f7a4_34 : decode cJ6_numberOfTrailingZeros_0f7a4 34 = .ok (.iload_n 0, 1) := by decide +kernel
theorem dJ6_numberOfTrailingZeros_0f7a4_35 : decode cJ6_numberOfTrailingZeros_0f7a4 35 = .ok (.sipush 256, 3) := by decide +kernel
theorem dJ6_numberOfTrailingZeros_0f7a4_38 : decode cJ6_numberOfTrailingZeros_0f7a4 38 = .ok (.if_icmp .le 11, 3) := by decide +kernel
theorem dJ6_numberOfTrailingZeros_0f7a4_41 : decode cJ6_numberOfTrailingZeros_0f7a4 41 = .ok (.iinc 1 8, 3) := by decide +kernel
theorem dJ6_numberOfTrailingZeros_0f7a4_44 : decode cJ6_numberOfTrailingZeros_0f7a4 44 = .ok (.iload_n 0, 1) := by decide +kernel
theorem dJ6_numberOfTrailingZeros_0f7a4_45 : decode cJ6_numberOfTrailingZeros_0f7a4 45 = .ok (.bipush 8, 2) := by decide +kernel
theorem dJ6_numberOfTrailingZeros_0f7a4_47 : decode cJ6_numberOfTrailingZeros_0f7a4 47 = .ok (.iushr, 1) := by decide +kernel
theorem dJ6_numberOfTrailingZeros_0f7a4_48 : decode cJ6_numberOfTrailingZeros_0f7a4 48 = .ok (.istore_n 0, 1) := by decide +kernel
theorem dJ6_numberOfTrailingZeros_0f7a4_49 : decode cJ6_numberOfTrailingZeros_0f7a4 49 = .ok (.iload_n 0, 1) := by decide +kernel
theorem dJ6_numberOfTrailingZeros_0f7a4_50 : decode cJ6_numberOfTrailingZeros_0f7a4 50 = .ok (.bipush 16, 2) := by decide +kernel
theorem dJ6_numberOfTrailingZeros_0f7a4_52 : decode cJ6_numberOfTrailingZeros_0f7a4 52 = .ok (.if_icmp .le 10, 3) := by decide +kernel
theorem dJ6_numberOfTrailingZeros_0f7a4_55 : decode cJ6_numberOfTrailingZeros_0f7a4 55 = .ok (.iinc 1 4, 3) := by decide +kernel
theorem dJ6_numberOfTrailingZeros_0f7a4_58 : decode cJ6_numberOfTrailingZeros_0f7a4 58 = .ok (.iload_n 0, 1) := by decide +kernel
theorem dJ6_numberOfTrailingZeros_0f7a4_59 : decode cJ6_numberOfTrailingZeros_0f7a4 59 = .ok (.iconst 4, 1) := by decide +kernel
theorem dJ6_numberOfTrailingZeros_0f7a4_60 : decode cJ6_numberOfTrailingZeros_0f7a4 60 = .ok (.iushr, 1) := by decide +kernel
theorem dJ6_numberOfTrailingZeros_0f7a4_61 : decode cJ6_numberOfTrailingZeros_0f7a4 61 = .ok (.istore_n 0, 1) := by decide +kernel
theorem dJ6_numberOfTrailingZeros_0f7a4_62 : decode cJ6_numberOfTrailingZeros_0f7a4 62 = .ok (.iload_n 0, 1) := by decide +kernel
theorem dJ6_numberOfTrailingZeros_0f7a4_63 : decode cJ6_numberOfTrailingZeros_0f7a4 63 = .ok (.iconst 4, 1) := by decide +kernel
theorem dJ6_numberOfTrailingZeros_0f7a4_64 : decode cJ6_numberOfTrailingZeros_0f7a4 64 = .ok (.if_icmp .le 10, 3) := by decide +kernel
theorem dJ6_numberOfTrailingZeros_0f7a4_67 : decode cJ6_numberOfTrailingZeros_0f7a4 67 = .ok (.iinc 1 2, 3) := by decide +kernel
theorem dJ6_numberOfTrailingZeros_0f7a4_70 : decode cJ6_numberOfTrailingZeros_0f7a4 70 = .ok (.iload_n 0, 1) := by decide +kernel
theorem dJ6_numberOfTrailingZeros_0f7a4_71 : decode cJ6_numberOfTrailingZeros_0f7a4 71 = .ok (.iconst 2, 1) := by decide +kernel
theorem dJ6_numberOfTrailingZeros_0f7a4_72 : decode cJ6_numberOfTrailingZeros_0f7a4 72 = .ok (.iushr, 1) := by decide +kernel
theorem dJ6_numberOfTrailingZeros_0f7a4_73 : decode cJ6_numberOfTrailingZeros_0f7a4 73 = .ok (.istore_n 0, 1) := by decide +kernel
theorem dJ6_numberOfTrailingZeros_0f7a4_74 : decode cJ6_numberOfTrailingZeros_0f7a4 74 = .ok (.iload_n 1, 1) := by decide +kernel
theorem dJ6_numberOfTrailingZeros_0f7a4_75 : decode cJ6_numberOfTrailingZeros_0f7a4 75 = .ok (.iload_n 0, 1) := by decide +kernel
theorem dJ6_numberOfTrailingZeros_0f7a4_76 : decode cJ6_numberOfTrailingZeros_0f7a4 76 = .ok (.iconst 1, 1) := by decide +kernel
theorem dJ6_numberOfTrailingZeros_0f7a4_77 : decode cJ6_numberOfTrailingZeros_0f7a4 77 = .ok (.iushr, 1) := by decide +kernel
theorem dJ6_numberOfTrailingZeros_0f7a4_78 : decode cJ6_numberOfTrailingZeros_0f7a4 78 = .ok (.iadd, 1) := by decide +kernel
theorem dJ6_numberOfTrailingZeros_0f7a4_79 : decode cJ6_numberOfTrailingZeros_0f7a4 79 = .ok (.ireturn, 1) := by decide +kernel
theorem dJ6_bitCount_0f7a4_0 : decode cJ6_bitCount_0f7a4 0 = .ok (.iload_n 0, 1) := by decide +kernel
theorem dJ6_bitCount_0f7a4_1 : decode cJ6_bitCount_0f7a4 1 = .ok (.iload_n 0, 1) := by decide +kernel
theorem dJ6_bitCount_0f7a4_2 : decode cJ6_bitCount_0f7a4 2 = .ok (.iconst 1, 1) := by decide +kernel
theorem dJ6_bitCount_0f7a4_3 : decode cJ6_bitCount_0f7a4 3 = .ok (.iushr, 1) := by decide +kernel
theorem dJ6_bitCount_0f7a4_4 : decode cJ6_bitCount_0f7a4 4 = .ok (.ldc_w 265, 3) := by decide +kernel
theorem dJ6_bitCount_0f7a4_7 : decode cJ6_bitCount_0f7a4 7 = .ok (.iand, 1) := by decide +kernel
theorem dJ6_bitCount_0f7a4_8 : decode cJ6_bitCount_0f7a4 8 = .ok (.isub, 1) := by decide +kernel
theorem dJ6_bitCount_0f7a4_9 : decode cJ6_bitCount_0f7a4 9 = .ok (.istore_n 0, 1) := by decide +kernel
theorem dJ6_bitCount_0f7a4_10 : decode cJ6_bitCount_0f7a4 10 = .ok (.iload_n 0, 1) := by decide +kernel
theorem dJ6_bitCount_0f7a4_11 : decode cJ6_bitCount_0f7a4 11 = .ok (.ldc_w 266, 3) := by decide +kernel
theorem dJ6_bitCount_0f7a4_14 : decode cJ6_bitCount_0f7a4 14 = .ok (.iand, 1) := by decide +kernel
theorem dJ6_bitCount_0f7a4_15 : decode cJ6_bitCount_0f7a4 15 = .ok (.iload_n 0, 1) := by decide +kernel
theorem dJ6_bitCount_0f7a4_16 : decode cJ6_bitCount_0f7a4 16 = .ok (.iconst 2, 1) := by decide +kernel
theorem dJ6_bitCount_0f7a4_17 : decode cJ6_bitCount_0f7a4 17 = .ok (.iushr, 1) := by decide +kernel
theorem dJ6_bitCount_0f7a4_18 : decode cJ6_bitCount_0f7a4 18 = .ok (.ldc_w 266, 3) := by decide +kernel
theorem dJ6_bitCount_0f7a4_21 : decode cJ6_bitCount_0f7a4 21 = .ok (.iand, 1) := by decide +kernel
theorem dJ6_bitCount_0f7a4_22 : decode cJ6_bitCount_0f7a4 22 = .ok (.iadd, 1) := by decide +kernel
theorem dJ6_bitCount_0f7a4_23 : decode cJ6_bitCount_0f7a4 23 = .ok (.istore_n 0, 1) := by decide +kernel
theorem dJ6_bitCount_0f7a4_24 : decode cJ6_bitCount_0f7a4 24 = .ok (.iload_n 0, 1) := by decide +kernel
theorem dJ6_bitCount_0f7a4_25 : decode cJ6_bitCount_0f7a4 25 = .ok (.iload_n 0, 1) := by decide +kernel
theorem dJ6_bitCount_0f7a4_26 : decode cJ6_bitCount_0f7a4 26 = .ok (.iconst 4, 1) := by decide +kernel
theorem dJ6_bitCount_0f7a4_27 : decode cJ6_bitCount_0f7a4 27 = .ok (.iushr, 1) := by decide +kernel
theorem dJ6_bitCount_0f7a4_28 : decode cJ6_bitCount_0f7a4 28 = .ok (.iadd, 1) := by decide +kernel
theorem dJ6_bitCount_0f7a4_29 : decode cJ6_bitCount_0f7a4 29 = .ok (.ldc_w 267, 3) := by decide +kernel
theorem dJ6_bitCount_0f7a4_32 : decode cJ6_bitCount_0f7a4 32 = .ok (.iand, 1) := by decide +kernel
theorem dJ6_bitCount_0f7a4_33 : decode cJ6_bitCount_0f7a4 33 = .ok (.istore_n 0, 1) := by decide +kernel
theorem dJ6_bitCount_0f7a4_34 : decode cJ6_bitCount_0f7a4 34 = .ok (.iload_n 0, 1) := by decide +kernel
theorem dJ6_bitCount_0f7a4_35 : decode cJ6_bitCount_0f7a4 35 = .ok (.iload_n 0, 1) := by decide +kernel
theorem dJ6_bitCount_0f7a4_36 : decode cJ6_bitCount_0f7a4 36 = .ok (.bipush 8, 2) := by decide +kernel
theorem dJ6_bitCount_0f7a4_38 : decode cJ6_bitCount_0f7a4 38 = .ok (.iushr, 1) := by decide +kernel
theorem dJ6_bitCount_0f7a4_39 : decode cJ6_bitCount_0f7a4 39 = .ok (.iadd, 1) := by decide +kernel
theorem dJ6_bitCount_0f7a4_40 : decode cJ6_bitCount_0f7a4 40 = .ok (.istore_n 0, 1) := by decide +kernel
theorem dJ6_bitCount_0f7a4_41 : decode cJ6_bitCount_0f7a4 41 = .ok (.iload_n 0, 1) := by decide +kernel
theorem dJ6_bitCount_0f7a4_42 : decode cJ6_bitCount_0f7a4 42 = .ok (.iload_n 0, 1) := by decide +kernel
theorem dJ6_bitCount_0f7a4_43 : decode cJ6_bitCount_0f7a4 43 = .ok (.bipush 16, 2) := by decide +kernel
theorem dJ6_bitCount_0f7a4_45 : decode cJ6_bitCount_0f7a4 45 = .ok (.iushr, 1) := by decide +kernel
theorem dJ6_bitCount_0f7a4_46 : decode cJ6_bitCount_0f7a4 46 = .ok (.iadd, 1) := by decide +kernel
theorem dJ6_bitCount_0f7a4_47 : decode cJ6_bitCount_0f7a4 47 = .ok (.istore_n 0, 1) := by decide +kernel
theorem dJ6_bitCount_0f7a4_48 : decode cJ6_bitCount_0f7a4 48 = .ok (.iload_n 0, 1) := by decide +kernel
theorem dJ6_bitCount_0f7a4_49 : decode cJ6_bitCount_0f7a4 49 = .ok (.bipush 63, 2) := by decide +kernel
theorem dJ6_bitCount_0f7a4_51 : decode cJ6_bitCount_0f7a4 51 = .ok (.iand, 1) := by decide +kernel
theorem dJ6_bitCount_0f7a4_52 : decode cJ6_bitCount_0f7a4 52 = .ok (.ireturn, 1) := by decide +kernel
theorem dJ9_max_7cf53_0 : decode cJ9_max_7cf53 0 = .ok (.iload_n 0, 1) := by decide +kernel
theorem dJ9_max_7cf53_1 : decode cJ9_max_7cf53 1 = .ok (.iload_n 1, 1) := by decide +kernel
theorem dJ9_max_7cf53_2 : decode cJ9_max_7cf53 2 = .ok (.if_icmp .lt 7, 3) := by decide +kernel
theorem dJ9_max_7cf53_5 : decode cJ9_max_7cf53 5 = .ok (.iload_n 0, 1) := by decide +kernel
theorem dJ9_max_7cf53_6 : decode cJ9_max_7cf53 6 = .ok (.goto 4, 3) := by decide +kernel
theorem dJ9_max_7cf53_9 : decode cJ9_max_7cf53 9 = .ok (.iload_n 1, 1) := by decide +kernel
theorem dJ9_max_7cf53_10 : decode cJ9_max_7cf53 10 = .ok (.ireturn, 1) := by decide +kernel
theorem dJ9_min_7cf53_0 : decode cJ9_min_7cf53 0 = .ok (.iload_n 0, 1) := by decide +kernel
theorem dJ9_min_7cf53_1 : decode cJ9_min_7cf53 1 = .ok (.iload_n 1, 1) := by decide +kernel
theorem dJ9_min_7cf53_2 : decode cJ9_min_7cf53 2 = .ok (.if_icmp .gt 7, 3) := by decide +kernel
theorem dJ9_min_7cf53_5 : decode cJ9_min_7cf53 5 = .ok (.iload_n 0, 1) := by decide +kernel
theorem dJ9_min_7cf53_6 : decode cJ9_min_7cf53 6 = .ok (.goto 4, 3) := by decide +kernel
theorem dJ9_min_7cf53_9 : decode cJ9_min_7cf53 9 = .ok (.iload_n 1, 1) := by decide +kernel
theorem dJ9_min_7cf53_10 : decode cJ9_min_7cf53 10 = .ok (.ireturn, 1) := by decide +kernel
theorem dJ0_length_8abf5_0 : decode cJ0_length_8abf5 0 = .ok (.aload_n 0, 1) := by decide +kernel
theorem dJ0_length_8abf5_1 : decode cJ0_length_8abf5 1 = .ok (.getfield 9, 3) := by decide +kernel
theorem dJ0_length_8abf5_4 : decode cJ0_length_8abf5 4 = .ok (.arraylength, 1) := by decide +kernel
theorem dJ0_length_8abf5_5 : decode cJ0_length_8abf5 5 = .ok (.aload_n 0, 1) := by decide +kernel
theorem dJ0_length_8abf5_6 : decode cJ0_length_8abf5 6 = .ok (.invokevirtual 335, 3) := by decide +kernel
theorem dJ0_length_8abf5_9 : decode cJ0_length_8abf5 9 = .ok (.ishr, 1) := by decide +kernel
theorem dJ0_length_8abf5_10 : decode cJ0_length_8abf5 10 = .ok (.ireturn, 1) := by decide +kernel
theorem dJ0_isEmpty_aae02_0 : decode cJ0_isEmpty_aae02 0 = .ok (.aload_n 0, 1) := by decide +kernel
theorem dJ0_isEmpty_aae02_1 : decode cJ0_isEmpty_aae02 1 = .ok (.getfield 9, 3) := by decide +kernel
theorem dJ0_isEmpty_aae02_4 : decode cJ0_isEmpty_aae02 4 = .ok (.arraylength, 1) := by decide +kernel
theorem dJ0_isEmpty_aae02_5 : decode cJ0_isEmpty_aae02 5 = .ok (.ifCond .ne 7, 3) := by decide +kernel
theorem dJ0_isEmpty_aae02_8 : decode cJ0_isEmpty_aae02 8 = .ok (.iconst 1, 1) := by decide +kernel
theorem dJ0_isEmpty_aae02_9 : decode cJ0_isEmpty_aae02 9 = .ok (.goto 4, 3) := by decide +kernel
theorem dJ0_isEmpty_aae02_12 : decode cJ0_isEmpty_aae02 12 = .ok (.iconst 0, 1) := by decide +kernel
theorem dJ0_isEmpty_aae02_13 : decode cJ0_isEmpty_aae02 13 = .ok (.ireturn, 1) := by decide +kernel
theorem dJ0_charAt_5068e_0 : decode cJ0_charAt_5068e 0 = .ok (.aload_n 0, 1) := by decide +kernel
theorem dJ0_charAt_5068e_1 : decode cJ0_charAt_5068e 1 = .ok (.invokevirtual 492, 3) := by decide +kernel
theorem dJ0_charAt_5068e_4 : decode cJ0_charAt_5068e 4 = .ok (.ifCond .eq 12, 3) := by decide +kernel
theorem dJ0_charAt_5068e_7 : decode cJ0_charAt_5068e 7 = .ok (.aload_n 0, 1) := by decide +kernel
theorem dJ0_charAt_5068e_8 : decode cJ0_charAt_5068e 8 = .ok (.getfield 9, 3) := by decide +kernel
theorem dJ0_charAt_5068e_11 : decode cJ0_charAt_5068e 11 = .ok (.iload_n 1, 1) := by decide +kernel
theorem dJ0_charAt_5068e_12 : decode cJ0_charAt_5068e 12 = .ok (.invokestatic 495, 3) := by decide +kernel
theorem dJ0_charAt_5068e_15 : decode cJ0_charAt_5068e 15 = .ok (.ireturn, 1) := by decide +kernel
theorem dJ0_charAt_5068e_16 : decode cJ0_charAt_5068e 16 = .ok (.aload_n 0, 1) := by decide +kernel
theorem dJ0_charAt_5068e_17 : decode cJ0_charAt_5068e 17 = .ok (.getfield 9, 3) := by decide +kernel
theorem dJ0_charAt_5068e_20 : decode cJ0_charAt_5068e 20 = .ok (.iload_n 1, 1) := by decide +kernel
theorem dJ0_charAt_5068e_21 : decode cJ0_charAt_5068e 21 = .ok (.invokestatic 498, 3) := by decide +kernel
theorem dJ0_charAt_5068e_24 : decode cJ0_charAt_5068e 24 = .ok (.ireturn, 1) := by decide +kernel
theorem dJ0_coder_7d493_0 : decode cJ0_coder_7d493 0 = .ok (.getstatic 38, 3) := by decide +kernel
theorem dJ0_coder_7d493_3 : decode cJ0_coder_7d493 3 = .ok (.ifCond .eq 10, 3) := by decide +kernel
theorem dJ0_coder_7d493_6 : decode cJ0_coder_7d493 6 = .ok (.aload_n 0, 1) := by decide +kernel
theorem dJ0_coder_7d493_7 : decode cJ0_coder_7d493 7 = .ok (.getfield 15, 3) := by decide +kernel
theorem dJ0_coder_7d493_10 : decode cJ0_coder_7d493 10 = .ok (.goto 4, 3) := by decide +kernel
theorem dJ0_coder_7d493_13 : decode cJ0_coder_7d493 13 = .ok (.iconst 1, 1) := by decide +kernel
theorem dJ0_coder_7d493_14 : decode cJ0_coder_7d493 14 = .ok (.ireturn, 1) := by decide +kernel
theorem dJ0_isLatin1_aae02_0 : decode cJ0_isLatin1_aae02 0 = .ok (.getstatic 38, 3) := by decide +kernel
theorem dJ0_isLatin1_aae02_3 : decode cJ0_isLatin1_aae02 3 = .ok (.ifCond .eq 14, 3) := by decide +kernel
theorem dJ0_isLatin1_aae02_6 : decode cJ0_isLatin1_aae02 6 = .ok (.aload_n 0, 1) := by decide +kernel
theorem dJ0_isLatin1_aae02_7 : decode cJ0_isLatin1_aae02 7 = .ok (.getfield 15, 3) := by decide +kernel
theorem dJ0_isLatin1_aae02_10 : decode cJ0_isLatin1_aae02 10 = .ok (.ifCond .ne 7, 3) := by decide +kernel
theorem dJ0_isLatin1_aae02_13 : decode cJ0_isLatin1_aae02 13 = .ok (.iconst 1, 1) := by decide +kernel
theorem dJ0_isLatin1_aae02_14 : decode cJ0_isLatin1_aae02 14 = .ok (.goto 4, 3) := by decide +kernel
theorem dJ0_isLatin1_aae02_17 : decode cJ0_isLatin1_aae02 17 = .ok (.iconst 0, 1) := by decide +kernel
theorem dJ0_isLatin1_aae02_18 : decode cJ0_isLatin1_aae02 18 = .ok (.ireturn, 1) := by decide +kernel
theorem dJ0_checkIndex_df160_0 : decode cJ0_checkIndex_df160 0 = .ok (.iload_n 0, 1) := by decide +kernel
theorem dJ0_checkIndex_df160_1 : decode cJ0_checkIndex_df160 1 = .ok (.iload_n 1, 1) := by decide +kernel
theorem dJ0_checkIndex_df160_2 : decode cJ0_checkIndex_df160 2 = .ok (.getstatic 1053, 3) := by decide +kernel
theorem dJ0_checkIndex_df160_5 : decode cJ0_checkIndex_df160 5 = .ok (.invokestatic 1059, 3) := by decide +kernel
theorem dJ0_checkIndex_df160_8 : decode cJ0_checkIndex_df160 8 = .ok (.pop, 1) := by decide +kernel
theorem dJ0_checkIndex_df160_9 : decode cJ0_checkIndex_df160 9 = .ok (.return_, 1) := by decide +kernel
theorem dJ1_charAt_3b067_0 : decode cJ1_charAt_3b067 0 = .ok (.iload_n 1, 1) := by decide +kernel
theorem dJ1_charAt_3b067_1 : decode cJ1_charAt_3b067 1 = .ok (.aload_n 0, 1) := by decide +kernel
theorem dJ1_charAt_3b067_2 : decode cJ1_charAt_3b067 2 = .ok (.arraylength, 1) := by decide +kernel
theorem dJ1_charAt_3b067_3 : decode cJ1_charAt_3b067 3 = .ok (.invokestatic 9, 3) := by decide +kernel
theorem dJ1_charAt_3b067_6 : decode cJ1_charAt_3b067 6 = .ok (.aload_n 0, 1) := by decide +kernel
theorem dJ1_charAt_3b067_7 : decode cJ1_charAt_3b067 7 = .ok (.iload_n 1, 1) := by decide +kernel
theorem dJ1_charAt_3b067_8 : decode cJ1_charAt_3b067 8 = .ok (.baload, 1) := by decide +kernel
theorem dJ1_charAt_3b067_9 : decode cJ1_charAt_3b067 9 = .ok (.sipush 255, 3) := by decide +kernel
theorem dJ1_charAt_3b067_12 : decode cJ1_charAt_3b067 12 = .ok (.iand, 1) := by decide +kernel
theorem dJ1_charAt_3b067_13 : decode cJ1_charAt_3b067 13 = .ok (.i2c, 1) := by decide +kernel
theorem dJ1_charAt_3b067_14 : decode cJ1_charAt_3b067 14 = .ok (.ireturn, 1) := by decide +kernel
theorem dJ2_getChar_3b067_0 : decode cJ2_getChar_3b067 0 = .ok (.getstatic 44, 3) := by decide +kernel
theorem dJ2_getChar_3b067_3 : decode cJ2_getChar_3b067 3 = .ok (.ifCond .ne 25, 3) := by decide +kernel
theorem dJ2_getChar_3b067_6 : decode cJ2_getChar_3b067 6 = .ok (.iload_n 1, 1) := by decide +kernel
theorem dJ2_getChar_3b067_7 : decode cJ2_getChar_3b067 7 = .ok (.ifCond .lt 11, 3) := by decide +kernel
theorem dJ2_getChar_3b067_10 : decode cJ2_getChar_3b067 10 = .ok (.iload_n 1, 1) := by decide +kernel
theorem dJ2_getChar_3b067_11 : decode cJ2_getChar_3b067 11 = .ok (.aload_n 0, 1) := by decide +kernel
theorem dJ2_getChar_3b067_12 : decode cJ2_getChar_3b067 12 = .ok (.invokestatic 48, 3) := by decide +kernel
theorem dJ2_getChar_3b067_15 : decode cJ2_getChar_3b067 15 = .ok (.if_icmp .lt 13, 3) := by decide +kernel
theorem dJ2_getChar_3b067_18 : decode cJ2_getChar_3b067 18 = .ok (.new 52, 3) := by decide +kernel
theorem dJ2_getChar_3b067_21 : decode cJ2_getChar_3b067 21 = .ok (.dup, 1) := by decide +kernel
theorem dJ2_getChar_3b067_22 : decode cJ2_getChar_3b067 22 = .ok (.ldc 54, 2) := by decide +kernel
theorem dJ2_getChar_3b067_24 : decode cJ2_getChar_3b067 24 = .ok (.invokespecial 56, 3) := by decide +kernel
theorem dJ2_getChar_3b067_27 : decode cJ2_getChar_3b067 27 = .ok (.athrow, 1) := by decide +kernel
theorem dJ2_getChar_3b067_28 : decode cJ2_getChar_3b067 28 = .ok (.iload_n 1, 1) := by decide +kernel
theorem dJ2_getChar_3b067_29 : decode cJ2_getChar_3b067 29 = .ok (.iconst 1, 1) := by decide +kernel
theorem dJ2_getChar_3b067_30 : decode cJ2_getChar_3b067 30 = .ok (.ishl, 1) := by decide +kernel
theorem dJ2_getChar_3b067_31 : decode cJ2_getChar_3b067 31 = .ok (.istore_n 1, 1) := by decide +kernel
theorem dJ2_getChar_3b067_32 : decode cJ2_getChar_3b067 32 = .ok (.aload_n 0, 1) := by decide +kernel
theorem dJ2_getChar_3b067_33 : decode cJ2_getChar_3b067 33 = .ok (.iload_n 1, 1) := by decide +kernel
theorem dJ2_getChar_3b067_34 : decode cJ2_getChar_3b067 34 = .ok (.iinc 1 1, 3) := by decide +kernel
theorem dJ2_getChar_3b067_37 : decode cJ2_getChar_3b067 37 = .ok (.baload, 1) := by decide +kernel
theorem dJ2_getChar_3b067_38 : decode cJ2_getChar_3b067 38 = .ok (.sipush 255, 3) := by decide +kernel
theorem dJ2_getChar_3b067_41 : decode cJ2_getChar_3b067 41 = .ok (.iand, 1) := by decide +kernel
theorem dJ2_getChar_3b067_42 : decode cJ2_getChar_3b067 42 = .ok (.getstatic 59, 3) := by decide +kernel
theorem dJ2_getChar_3b067_45 : decode cJ2_getChar_3b067 45 = .ok (.ishl, 1) := by decide +kernel
theorem dJ2_getChar_3b067_46 : decode cJ2_getChar_3b067 46 = .ok (.aload_n 0, 1) := by decide +kernel
theorem dJ2_getChar_3b067_47 : decode cJ2_getChar_3b067 47 = .ok (.iload_n 1, 1) := by decide +kernel
theorem dJ2_getChar_3b067_48 : decode cJ2_getChar_3b067 48 = .ok (.baload, 1) := by decide +kernel
theorem dJ2_getChar_3b067_49 : decode cJ2_getChar_3b067 49 = .ok (.sipush 255, 3) := by decide +kernel
theorem dJ2_getChar_3b067_52 : decode cJ2_getChar_3b067 52 = .ok (.iand, 1) := by decide +kernel
theorem dJ2_getChar_3b067_53 : decode cJ2_getChar_3b067 53 = .ok (.getstatic 63, 3) := by decide +kernel
theorem dJ2_getChar_3b067_56 : decode cJ2_getChar_3b067 56 = .ok (.ishl, 1) := by decide +kernel
theorem dJ2_getChar_3b067_57 : decode cJ2_getChar_3b067 57 = .ok (.ior, 1) := by decide +kernel
theorem dJ2_getChar_3b067_58 : decode cJ2_getChar_3b067 58 = .ok (.i2c, 1) := by decide +kernel
theorem dJ2_getChar_3b067_59 : decode cJ2_getChar_3b067 59 = .ok (.ireturn, 1) := by decide +kernel
theorem dJ2_length_9d52b_0 : decode cJ2_length_9d52b 0 = .ok (.aload_n 0, 1) := by decide +kernel
theorem dJ2_length_9d52b_1 : decode cJ2_length_9d52b 1 = .ok (.arraylength, 1) := by decide +kernel
theorem dJ2_length_9d52b_2 : decode cJ2_length_9d52b 2 = .ok (.iconst 1, 1) := by decide +kernel
theorem dJ2_length_9d52b_3 : decode cJ2_length_9d52b 3 = .ok (.ishr, 1) := by decide +kernel
theorem dJ2_length_9d52b_4 : decode cJ2_length_9d52b 4 = .ok (.ireturn, 1) := by decide +kernel
theorem dJ2_charAt_3b067_0 : decode cJ2_charAt_3b067 0 = .ok (.iload_n 1, 1) := by decide +kernel
theorem dJ2_charAt_3b067_1 : decode cJ2_charAt_3b067 1 = .ok (.aload_n 0, 1) := by decide +kernel
theorem dJ2_charAt_3b067_2 : decode cJ2_charAt_3b067 2 = .ok (.invokestatic 67, 3) := by decide +kernel
theorem dJ2_charAt_3b067_5 : decode cJ2_charAt_3b067 5 = .ok (.aload_n 0, 1) := by decide +kernel
theorem dJ2_charAt_3b067_6 : decode cJ2_charAt_3b067 6 = .ok (.iload_n 1, 1) := by decide +kernel
theorem dJ2_charAt_3b067_7 : decode cJ2_charAt_3b067 7 = .ok (.invokestatic 71, 3) := by decide +kernel
theorem dJ2_charAt_3b067_10 : decode cJ2_charAt_3b067 10 = .ok (.ireturn, 1) := by decide +kernel
theorem dJ2_checkIndex_2214a_0 : decode cJ2_checkIndex_2214a 0 = .ok (.iload_n 0, 1) := by decide +kernel
theorem dJ2_checkIndex_2214a_1 : decode cJ2_checkIndex_2214a 1 = .ok (.aload_n 1, 1) := by decide +kernel
theorem dJ2_checkIndex_2214a_2 : decode cJ2_checkIndex_2214a 2 = .ok (.invokestatic 48, 3) := by decide +kernel
theorem dJ2_checkIndex_2214a_5 : decode cJ2_checkIndex_2214a 5 = .ok (.invokestatic 414, 3) := by decide +kernel
theorem dJ2_checkIndex_2214a_8 : decode cJ2_checkIndex_2214a 8 = .ok (.return_, 1) := by decide +kernel
theorem dJ3_checkIndex_8e157_0 : decode cJ3_checkIndex_8e157 0 = .ok (.iload_n 0, 1) := by decide +kernel
theorem dJ3_checkIndex_8e157_1 : decode cJ3_checkIndex_8e157 1 = .ok (.ifCond .lt 8, 3) := by decide +kernel
theorem dJ3_checkIndex_8e157_4 : decode cJ3_checkIndex_8e157 4 = .ok (.iload_n 0, 1) := by decide +kernel
theorem dJ3_checkIndex_8e157_5 : decode cJ3_checkIndex_8e157 5 = .ok (.iload_n 1, 1) := by decide +kernel
theorem dJ3_checkIndex_8e157_6 : decode cJ3_checkIndex_8e157 6 = .ok (.if_icmp .lt 10, 3) := by decide +kernel
theorem dJ3_checkIndex_8e157_9 : decode cJ3_checkIndex_8e157 9 = .ok (.aload_n 2, 1) := by decide +kernel
theorem dJ3_checkIndex_8e157_10 : decode cJ3_checkIndex_8e157 10 = .ok (.iload_n 0, 1) := by decide +kernel
theorem dJ3_checkIndex_8e157_11 : decode cJ3_checkIndex_8e157 11 = .ok (.iload_n 1, 1) := by decide +kernel
theorem dJ3_checkIndex_8e157_12 : decode cJ3_checkIndex_8e157 12 = .ok (.invokestatic 95, 3) := by decide +kernel
theorem dJ3_checkIndex_8e157_15 : decode cJ3_checkIndex_8e157 15 = .ok (.athrow, 1) := by decide +kernel
theorem dJ3_checkIndex_8e157_16 : decode cJ3_checkIndex_8e157 16 = .ok (.iload_n 0, 1) := by decide +kernel
theorem dJ3_checkIndex_8e157_17 : decode cJ3_checkIndex_8e157 17 = .ok (.ireturn, 1) := by decide +kernel
theorem dX2_of_0 : decode cX2_of 0 = .ok (.iload_n 0, 1) := by decide +kernel
theorem dX2_of_1 : decode cX2_of 1 = .ok (.ifCond .lt 19, 3) := by decide +kernel
theorem dX2_of_4 : decode cX2_of 4 = .ok (.iload_n 0, 1) := by decide +kernel
theorem dX2_of_5 : decode cX2_of 5 = .ok (.getstatic 60, 3) := by decide +kernel
theorem dX2_of_8 : decode cX2_of 8 = .ok (.arraylength, 1) := by decide +kernel
theorem dX2_of_9 : decode cX2_of 9 = .ok (.if_icmp .ge 11, 3) := by decide +kernel
theorem dX2_of_12 : decode cX2_of 12 = .ok (.getstatic 60, 3) := by decide +kernel
theorem dX2_of_15 : decode cX2_of 15 = .ok (.iload_n 0, 1) := by decide +kernel
theorem dX2_of_16 : decode cX2_of 16 = .ok (.aaload, 1) := by decide +kernel
theorem dX2_of_17 : decode cX2_of 17 = .ok (.goto 6, 3) := by decide +kernel
theorem dX2_of_20 : decode cX2_of 20 = .ok (.getstatic 5, 3) := by decide +kernel
theorem dX2_of_23 : decode cX2_of 23 = .ok (.areturn, 1) := by decide +kernel
theorem dX2_costOn_0 : decode cX2_costOn 0 = .ok (.aload_n 0, 1) := by decide +kernel
theorem dX2_costOn_1 : decode cX2_costOn 1 = .ok (.getfield 43, 3) := by decide +kernel
theorem dX2_costOn_4 : decode cX2_costOn 4 = .ok (.iload_n 1, 1) := by decide +kernel
theorem dX2_costOn_5 : decode cX2_costOn 5 = .ok (.aload_n 0, 1) := by decide +kernel
theorem dX2_costOn_6 : decode cX2_costOn 6 = .ok (.getfield 47, 3) := by decide +kernel
theorem dX2_costOn_9 : decode cX2_costOn 9 = .ok (.iload_n 2, 1) := by decide +kernel
theorem dX2_costOn_10 : decode cX2_costOn 10 = .ok (.imul, 1) := by decide +kernel
theorem dX2_costOn_11 : decode cX2_costOn 11 = .ok (.iadd, 1) := by decide +kernel
theorem dX2_costOn_12 : decode cX2_costOn 12 = .ok (.imul, 1) := by decide +kernel
theorem dX2_costOn_13 : decode cX2_costOn 13 = .ok (.ireturn, 1) := by decide +kernel
theorem dX2_costBack_0 : decode cX2_costBack 0 = .ok (.aload_n 0, 1) := by decide +kernel
theorem dX2_costBack_1 : decode cX2_costBack 1 = .ok (.getfield 53, 3) := by decide +kernel
theorem dX2_costBack_4 : decode cX2_costBack 4 = .ok (.ifCond .eq 19, 3) := by decide +kernel
theorem dX2_costBack_7 : decode cX2_costBack 7 = .ok (.aload_n 0, 1) := by decide +kernel
theorem dX2_costBack_8 : decode cX2_costBack 8 = .ok (.getfield 43, 3) := by decide +kernel
theorem dX2_costBack_11 : decode cX2_costBack 11 = .ok (.iload_n 1, 1) := by decide +kernel
theorem dX2_costBack_12 : decode cX2_costBack 12 = .ok (.aload_n 0, 1) := by decide +kernel
theorem dX2_costBack_13 : decode cX2_costBack 13 = .ok (.getfield 50, 3) := by decide +kernel
theorem dX2_costBack_16 : decode cX2_costBack 16 = .ok (.iload_n 2, 1) := by decide +kernel
theorem dX2_costBack_17 : decode cX2_costBack 17 = .ok (.imul, 1) := by decide +kernel
theorem dX2_costBack_18 : decode cX2_costBack 18 = .ok (.iadd, 1) := by decide +kernel
theorem dX2_costBack_19 : decode cX2_costBack 19 = .ok (.imul, 1) := by decide +kernel
theorem dX2_costBack_20 : decode cX2_costBack 20 = .ok (.goto 5, 3) := by decide +kernel
theorem dX2_costBack_23 : decode cX2_costBack 23 = .ok (.ldc 63, 2) := by decide +kernel
theorem dX2_costBack_25 : decode cX2_costBack 25 = .ok (.ireturn, 1) := by decide +kernel
theorem dX7_init_0 : decode cX7_init 0 = .ok (.aload_n 0, 1) := by decide +kernel
theorem dX7_init_1 : decode cX7_init 1 = .ok (.invokespecial 3, 3) := by decide +kernel
theorem dX7_init_4 : decode cX7_init 4 = .ok (.aload_n 0, 1) := by decide +kernel
theorem dX7_init_5 : decode cX7_init 5 = .ok (.bipush 8, 2) := by decide +kernel
theorem dX7_init_7 : decode cX7_init 7 = .ok (.newarray .int, 2) := by decide +kernel
theorem dX7_init_9 : decode cX7_init 9 = .ok (.putfield 9, 3) := by decide +kernel
theorem dX7_init_12 : decode cX7_init 12 = .ok (.aload_n 0, 1) := by decide +kernel
theorem dX7_init_13 : decode cX7_init 13 = .ok (.bipush 8, 2) := by decide +kernel
theorem dX7_init_15 : decode cX7_init 15 = .ok (.newarray .int, 2) := by decide +kernel
theorem dX7_init_17 : decode cX7_init 17 = .ok (.putfield 15, 3) := by decide +kernel
theorem dX7_init_20 : decode cX7_init 20 = .ok (.aload_n 0, 1) := by decide +kernel
theorem dX7_init_21 : decode cX7_init 21 = .ok (.bipush 8, 2) := by decide +kernel
theorem dX7_init_23 : decode cX7_init 23 = .ok (.newarray .int, 2) := by decide +kernel
theorem dX7_init_25 : decode cX7_init 25 = .ok (.putfield 18, 3) := by decide +kernel
theorem dX7_init_28 : decode cX7_init 28 = .ok (.aload_n 0, 1) := by decide +kernel
theorem dX7_init_29 : decode cX7_init 29 = .ok (.bipush 8, 2) := by decide +kernel
theorem dX7_init_31 : decode cX7_init 31 = .ok (.newarray .int, 2) := by decide +kernel
theorem dX7_init_33 : decode cX7_init 33 = .ok (.putfield 21, 3) := by decide +kernel
theorem dX7_init_36 : decode cX7_init 36 = .ok (.aload_n 0, 1) := by decide +kernel
theorem dX7_init_37 : decode cX7_init 37 = .ok (.bipush 8, 2) := by decide +kernel
theorem dX7_init_39 : decode cX7_init 39 = .ok (.newarray .int, 2) := by decide +kernel
theorem dX7_init_41 : decode cX7_init 41 = .ok (.putfield 24, 3) := by decide +kernel
theorem dX7_init_44 : decode cX7_init 44 = .ok (.aload_n 0, 1) := by decide +kernel
theorem dX7_init_45 : decode cX7_init 45 = .ok (.iconst 0, 1) := by decide +kernel
theorem dX7_init_46 : decode cX7_init 46 = .ok (.putfield 27, 3) := by decide +kernel
theorem dX7_init_49 : decode cX7_init 49 = .ok (.aload_n 0, 1) := by decide +kernel
theorem dX7_init_50 : decode cX7_init 50 = .ok (.iconst 0, 1) := by decide +kernel
theorem dX7_init_51 : decode cX7_init 51 = .ok (.putfield 31, 3) := by decide +kernel
theorem dX7_init_54 : decode cX7_init 54 = .ok (.aload_n 0, 1) := by decide +kernel
theorem dX7_init_55 : decode cX7_init 55 = .ok (.iconst 0, 1) := by decide +kernel
theorem dX7_init_56 : decode cX7_init 56 = .ok (.putfield 34, 3) := by decide +kernel
theorem dX7_init_59 : decode cX7_init 59 = .ok (.return_, 1) := by decide +kernel
theorem dX7_takeOver_0 : decode cX7_takeOver 0 = .ok (.aload_n 1, 1) := by decide +kernel
theorem dX7_takeOver_1 : decode cX7_takeOver 1 = .ok (.getfield 9, 3) := by decide +kernel
theorem dX7_takeOver_4 : decode cX7_takeOver 4 = .ok (.iconst 0, 1) := by decide +kernel
theorem dX7_takeOver_5 : decode cX7_takeOver 5 = .ok (.aload_n 0, 1) := by decide +kernel
theorem dX7_takeOver_6 : decode cX7_takeOver 6 = .ok (.getfield 9, 3) := by decide +kernel
theorem dX7_takeOver_9 : decode cX7_takeOver 9 = .ok (.iconst 0, 1) := by decide +kernel
theorem dX7_takeOver_10 : decode cX7_takeOver 10 = .ok (.bipush 8, 2) := by decide +kernel
theorem dX7_takeOver_12 : decode cX7_takeOver 12 = .ok (.invokestatic 37, 3) := by decide +kernel
theorem dX7_takeOver_15 : decode cX7_takeOver 15 = .ok (.aload_n 1, 1) := by decide +kernel
theorem dX7_takeOver_16 : decode cX7_takeOver 16 = .ok (.getfield 15, 3) := by decide +kernel
theorem dX7_takeOver_19 : decode cX7_takeOver 19 = .ok (.iconst 0, 1) := by decide +kernel
theorem dX7_takeOver_20 : decode cX7_takeOver 20 = .ok (.aload_n 0, 1) := by decide +kernel
theorem dX7_takeOver_21 : decode cX7_takeOver 21 = .ok (.getfield 15, 3) := by decide +kernel
theorem dX7_takeOver_24 : decode cX7_takeOver 24 = .ok (.iconst 0, 1) := by decide +kernel
theorem dX7_takeOver_25 : decode cX7_takeOver 25 = .ok (.bipush 8, 2) := by decide +kernel
theorem dX7_takeOver_27 : decode cX7_takeOver 27 = .ok (.invokestatic 37, 3) := by decide +kernel
theorem dX7_takeOver_30 : decode cX7_takeOver 30 = .ok (.aload_n 1, 1) := by decide +kernel
theorem dX7_takeOver_31 : decode cX7_takeOver 31 = .ok (.getfield 18, 3) := by decide +kernel
theorem dX7_takeOver_34 : decode cX7_takeOver 34 = .ok (.iconst 0, 1) := by decide +kernel
theorem dX7_takeOver_35 : decode cX7_takeOver 35 = .ok (.aload_n 0, 1) := by decide +kernel
theorem dX7_takeOver_36 : decode cX7_takeOver 36 = .ok (.getfield 18, 3) := by decide +kernel
theorem dX7_takeOver_39 : decode cX7_takeOver 39 = .ok (.iconst 0, 1) := by decide +kernel
theorem dX7_takeOver_40 : decode cX7_takeOver 40 = .ok (.bipush 8, 2) := by decide +kernel
theorem dX7_takeOver_42 : decode cX7_takeOver 42 = .ok (.invokestatic 37, 3) := by decide +kernel
theorem dX7_takeOver_45 : decode cX7_takeOver 45 = .ok (.aload_n 1, 1) := by decide +kernel
theorem dX7_takeOver_46 : decode cX7_takeOver 46 = .ok (.getfield 21, 3) := by decide +kernel
theorem dX7_takeOver_49 : decode cX7_takeOver 49 = .ok (.iconst 0, 1) := by decide +kernel
theorem dX7_takeOver_50 : decode cX7_takeOver 50 = .ok (.aload_n 0, 1) := by decide +kernel
theorem dX7_takeOver_51 : decode cX7_takeOver 51 = .ok (.getfield 21, 3) := by decide +kernel
theorem dX7_takeOver_54 : decode cX7_takeOver 54 = .ok (.iconst 0, 1) := by decide +kernel
theorem dX7_takeOver_55 : decode cX7_takeOver 55 = .ok (.bipush 8, 2) := by decide +kernel
theorem dX7_takeOver_57 : decode cX7_takeOver 57 = .ok (.invokestatic 37, 3) := by decide +kernel
theorem dX7_takeOver_60 : decode cX7_takeOver 60 = .ok (.aload_n 1, 1) := by decide +kernel
theorem dX7_takeOver_61 : decode cX7_takeOver 61 = .ok (.getfield 24, 3) := by decide +kernel
theorem dX7_takeOver_64 : decode cX7_takeOver 64 = .ok (.iconst 0, 1) := by decide +kernel
theorem dX7_takeOver_65 : decode cX7_takeOver 65 = .ok (.aload_n 0, 1) := by decide +kernel
theorem dX7_takeOver_66 : decode cX7_takeOver 66 = .ok (.getfield 24, 3) := by decide +kernel
theorem dX7_takeOver_69 : decode cX7_takeOver 69 = .ok (.iconst 0, 1) := by decide +kernel
theorem dX7_takeOver_70 : decode cX7_takeOver 70 = .ok (.bipush 8, 2) := by decide +kernel
theorem dX7_takeOver_72 : decode cX7_takeOver 72 = .ok (.invokestatic 37, 3) := by decide +kernel
theorem dX7_takeOver_75 : decode cX7_takeOver 75 = .ok (.aload_n 0, 1) := by decide +kernel
theorem dX7_takeOver_76 : decode cX7_takeOver 76 = .ok (.aload_n 1, 1) := by decide +kernel
theorem dX7_takeOver_77 : decode cX7_takeOver 77 = .ok (.getfield 27, 3) := by decide +kernel
theorem dX7_takeOver_80 : decode cX7_takeOver 80 = .ok (.putfield 27, 3) := by decide +kernel
theorem dX7_takeOver_83 : decode cX7_takeOver 83 = .ok (.aload_n 0, 1) := by decide +kernel
theorem dX7_takeOver_84 : decode cX7_takeOver 84 = .ok (.aload_n 1, 1) := by decide +kernel
theorem dX7_takeOver_85 : decode cX7_takeOver 85 = .ok (.getfield 31, 3) := by decide +kernel
theorem dX7_takeOver_88 : decode cX7_takeOver 88 = .ok (.putfield 31, 3) := by decide +kernel
theorem dX7_takeOver_91 : decode cX7_takeOver 91 = .ok (.aload_n 0, 1) := by decide +kernel
theorem dX7_takeOver_92 : decode cX7_takeOver 92 = .ok (.aload_n 1, 1) := by decide +kernel
theorem dX7_takeOver_93 : decode cX7_takeOver 93 = .ok (.getfield 34, 3) := by decide +kernel
theorem dX7_takeOver_96 : decode cX7_takeOver 96 = .ok (.putfield 34, 3) := by decide +kernel
theorem dX7_takeOver_99 : decode cX7_takeOver 99 = .ok (.return_, 1) := by decide +kernel
theorem dX7_isLike_0 : decode cX7_isLike 0 = .ok (.aload_n 0, 1) := by decide +kernel
theorem dX7_isLike_1 : decode cX7_isLike 1 = .ok (.getfield 31, 3) := by decide +kernel
theorem dX7_isLike_4 : decode cX7_isLike 4 = .ok (.aload_n 1, 1) := by decide +kernel
theorem dX7_isLike_5 : decode cX7_isLike 5 = .ok (.getfield 31, 3) := by decide +kernel
theorem dX7_isLike_8 : decode cX7_isLike 8 = .ok (.if_icmp .ne 29, 3) := by decide +kernel
theorem dX7_isLike_11 : decode cX7_isLike 11 = .ok (.aload_n 0, 1) := by decide +kernel
theorem dX7_isLike_12 : decode cX7_isLike 12 = .ok (.getfield 34, 3) := by decide +kernel
theorem dX7_isLike_15 : decode cX7_isLike 15 = .ok (.aload_n 1, 1) := by decide +kernel
theorem dX7_isLike_16 : decode cX7_isLike 16 = .ok (.getfield 34, 3) := by decide +kernel
theorem dX7_isLike_19 : decode cX7_isLike 19 = .ok (.if_icmp .ne 18, 3) := by decide +kernel
theorem dX7_isLike_22 : decode cX7_isLike 22 = .ok (.aload_n 0, 1) := by decide +kernel
theorem dX7_isLike_23 : decode cX7_isLike 23 = .ok (.getfield 27, 3) := by decide +kernel
theorem dX7_isLike_26 : decode cX7_isLike 26 = .ok (.aload_n 1, 1) := by decide +kernel
theorem dX7_isLike_27 : decode cX7_isLike 27 = .ok (.getfield 27, 3) := by decide +kernel
theorem dX7_isLike_30 : decode cX7_isLike 30 = .ok (.if_icmp .ne 7, 3) := by decide +kernel
theorem dX7_isLike_33 : decode cX7_isLike 33 = .ok (.iconst 1, 1) := by decide +kernel
theorem dX7_isLike_34 : decode cX7_isLike 34 = .ok (.goto 4, 3) := by decide +kernel
theorem dX7_isLike_37 : decode cX7_isLike 37 = .ok (.iconst 0, 1) := by decide +kernel
theorem dX7_isLike_38 : decode cX7_isLike 38 = .ok (.istore_n 2, 1) := by decide +kernel
theorem dX7_isLike_39 : decode cX7_isLike 39 = .ok (.iconst 0, 1) := by decide +kernel
theorem dX7_isLike_40 : decode cX7_isLike 40 = .ok (.istore_n 3, 1) := by decide +kernel
theorem dX7_isLike_41 : decode cX7_isLike 41 = .ok (.iload_n 3, 1) := by decide +kernel
theorem dX7_isLike_42 : decode cX7_isLike 42 = .ok (.aload_n 0, 1) := by decide +kernel
theorem dX7_isLike_43 : decode cX7_isLike 43 = .ok (.getfield 31, 3) := by decide +kernel
theorem dX7_isLike_46 : decode cX7_isLike 46 = .ok (.if_icmp .ge 94, 3) := by decide +kernel
theorem dX7_isLike_49 : decode cX7_isLike 49 = .ok (.iload_n 2, 1) := by decide +kernel
theorem dX7_isLike_50 : decode cX7_isLike 50 = .ok (.ifCond .eq 90, 3) := by decide +kernel
theorem dX7_isLike_53 : decode cX7_isLike 53 = .ok (.aload_n 0, 1) := by decide +kernel
theorem dX7_isLike_54 : decode cX7_isLike 54 = .ok (.getfield 9, 3) := by decide +kernel
theorem dX7_isLike_57 : decode cX7_isLike 57 = .ok (.iload_n 3, 1) := by decide +kernel
theorem dX7_isLike_58 : decode cX7_isLike 58 = .ok (.iaload, 1) := by decide +kernel
theorem dX7_isLike_59 : decode cX7_isLike 59 = .ok (.aload_n 1, 1) := by decide +kernel
theorem dX7_isLike_60 : decode cX7_isLike 60 = .ok (.getfield 9, 3) := by decide +kernel
theorem dX7_isLike_63 : decode cX7_isLike 63 = .ok (.iload_n 3, 1) := by decide +kernel
theorem dX7_isLike_64 : decode cX7_isLike 64 = .ok (.iaload, 1) := by decide +kernel
theorem dX7_isLike_65 : decode cX7_isLike 65 = .ok (.if_icmp .ne 67, 3) := by decide +kernel
theorem dX7_isLike_68 : decode cX7_isLike 68 = .ok (.aload_n 0, 1) := by decide +kernel
theorem dX7_isLike_69 : decode cX7_isLike 69 = .ok (.getfield 15, 3) := by decide +kernel
theorem dX7_isLike_72 : decode cX7_isLike 72 = .ok (.iload_n 3, 1) := by decide +kernel
theorem dX7_isLike_73 : decode cX7_isLike 73 = .ok (.iaload, 1) := by decide +kernel
theorem dX7_isLike_74 : decode cX7_isLike 74 = .ok (.aload_n 1, 1) := by decide +kernel
theorem dX7_isLike_75 : decode cX7_isLike 75 = .ok (.getfield 15, 3) := by decide +kernel
theorem dX7_isLike_78 : decode cX7_isLike 78 = .ok (.iload_n 3, 1) := by decide +kernel
theorem dX7_isLike_79 : decode cX7_isLike 79 = .ok (.iaload, 1) := by decide +kernel
theorem dX7_isLike_80 : decode cX7_isLike 80 = .ok (.if_icmp .ne 52, 3) := by decide +kernel
theorem dX7_isLike_83 : decode cX7_isLike 83 = .ok (.aload_n 0, 1) := by decide +kernel
theorem dX7_isLike_84 : decode cX7_isLike 84 = .ok (.getfield 18, 3) := by decide +kernel
theorem dX7_isLike_87 : decode cX7_isLike 87 = .ok (.iload_n 3, 1) := by decide +kernel
theorem dX7_isLike_88 : decode cX7_isLike 88 = .ok (.iaload, 1) := by decide +kernel
theorem dX7_isLike_89 : decode cX7_isLike 89 = .ok (.aload_n 1, 1) := by decide +kernel
theorem dX7_isLike_90 : decode cX7_isLike 90 = .ok (.getfield 18, 3) := by decide +kernel
theorem dX7_isLike_93 : decode cX7_isLike 93 = .ok (.iload_n 3, 1) := by decide +kernel
theorem dX7_isLike_94 : decode cX7_isLike 94 = .ok (.iaload, 1) := by decide +kernel
theorem dX7_isLike_95 : decode cX7_isLike 95 = .ok (.if_icmp .ne 37, 3) := by decide +kernel
theorem dX7_isLike_98 : decode cX7_isLike 98 = .ok (.aload_n 0, 1) := by decide +kernel
theorem dX7_isLike_99 : decode cX7_isLike 99 = .ok (.getfield 21, 3) := by decide +kernel
theorem dX7_isLike_102 : decode cX7_isLike 102 = .ok (.iload_n 3, 1) := by decide +kernel
theorem dX7_isLike_103 : decode cX7_isLike 103 = .ok (.iaload, 1) := by decide +kernel
theorem dX7_isLike_104 : decode cX7_isLike 104 = .ok (.aload_n 1, 1) := by decide +kernel
theorem dX7_isLike_105 : decode cX7_isLike 105 = .ok (.getfield 21, 3) := by decide +kernel
theorem dX7_isLike_108 : decode cX7_isLike 108 = .ok (.iload_n 3, 1) := by decide +kernel
theorem dX7_isLike_109 : decode cX7_isLike 109 = .ok (.iaload, 1) := by decide +kernel
theorem dX7_isLike_110 : decode cX7_isLike 110 = .ok (.if_icmp .ne 22, 3) := by decide +kernel
theorem dX7_isLike_113 : decode cX7_isLike 113 = .ok (.aload_n 0, 1) := by decide +kernel
theorem dX7_isLike_114 : decode cX7_isLike 114 = .ok (.getfield 24, 3) := by decide +kernel
theorem dX7_isLike_117 : decode cX7_isLike 117 = .ok (.iload_n 3, 1) := by decide +kernel
theorem dX7_isLike_118 : decode cX7_isLike 118 = .ok (.iaload, 1) := by decide +kernel
theorem dX7_isLike_119 : decode cX7_isLike 119 = .ok (.aload_n 1, 1) := by decide +kernel
theorem dX7_isLike_120 : decode cX7_isLike 120 = .ok (.getfield 24, 3) := by decide +kernel
theorem dX7_isLike_123 : decode cX7_isLike 123 = .ok (.iload_n 3, 1) := by decide +kernel
theorem dX7_isLike_124 : decode cX7_isLike 124 = .ok (.iaload, 1) := by decide +kernel
theorem dX7_isLike_125 : decode cX7_isLike 125 = .ok (.if_icmp .ne 7, 3) := by decide +kernel
theorem dX7_isLike_128 : decode cX7_isLike 128 = .ok (.iconst 1, 1) := by decide +kernel
theorem dX7_isLike_129 : decode cX7_isLike 129 = .ok (.goto 4, 3) := by decide +kernel
theorem dX7_isLike_132 : decode cX7_isLike 132 = .ok (.iconst 0, 1) := by decide +kernel
theorem dX7_isLike_133 : decode cX7_isLike 133 = .ok (.istore_n 2, 1) := by decide +kernel
theorem dX7_isLike_134 : decode cX7_isLike 134 = .ok (.iinc 3 1, 3) := by decide +kernel
theorem dX7_isLike_137 : decode cX7_isLike 137 = .ok (.goto (-96), 3) := by decide +kernel
theorem dX7_isLike_140 : decode cX7_isLike 140 = .ok (.iload_n 2, 1) := by decide +kernel
theorem dX7_isLike_141 : decode cX7_isLike 141 = .ok (.ireturn, 1) := by decide +kernel
theorem dX7_has_0 : decode cX7_has 0 = .ok (.iload_n 1, 1) := by decide +kernel
theorem dX7_has_1 : decode cX7_has 1 = .ok (.ifCond .lt 15, 3) := by decide +kernel
theorem dX7_has_4 : decode cX7_has 4 = .ok (.iload_n 1, 1) := by decide +kernel
theorem dX7_has_5 : decode cX7_has 5 = .ok (.aload_n 0, 1) := by decide +kernel
theorem dX7_has_6 : decode cX7_has 6 = .ok (.getfield 31, 3) := by decide +kernel
theorem dX7_has_9 : decode cX7_has 9 = .ok (.if_icmp .ge 7, 3) := by decide +kernel
theorem dX7_has_12 : decode cX7_has 12 = .ok (.iconst 1, 1) := by decide +kernel
theorem dX7_has_13 : decode cX7_has 13 = .ok (.goto 4, 3) := by decide +kernel
theorem dX7_has_16 : decode cX7_has 16 = .ok (.iconst 0, 1) := by decide +kernel
theorem dX7_has_17 : decode cX7_has 17 = .ok (.ireturn, 1) := by decide +kernel
theorem dX7_hasRoom_0 : decode cX7_hasRoom 0 = .ok (.aload_n 0, 1) := by decide +kernel
theorem dX7_hasRoom_1 : decode cX7_hasRoom 1 = .ok (.getfield 31, 3) := by decide +kernel
theorem dX7_hasRoom_4 : decode cX7_hasRoom 4 = .ok (.bipush 8, 2) := by decide +kernel
theorem dX7_hasRoom_6 : decode cX7_hasRoom 6 = .ok (.if_icmp .ge 7, 3) := by decide +kernel
theorem dX7_hasRoom_9 : decode cX7_hasRoom 9 = .ok (.iconst 1, 1) := by decide +kernel
theorem dX7_hasRoom_10 : decode cX7_hasRoom 10 = .ok (.goto 4, 3) := by decide +kernel
theorem dX7_hasRoom_13 : decode cX7_hasRoom 13 = .ok (.iconst 0, 1) := by decide +kernel
theorem dX7_hasRoom_14 : decode cX7_hasRoom 14 = .ok (.ireturn, 1) := by decide +kernel
theorem dX7_add_0 : decode cX7_add 0 = .ok (.aload_n 0, 1) := by decide +kernel
theorem dX7_add_1 : decode cX7_add 1 = .ok (.invokevirtual 43, 3) := by decide +kernel
theorem dX7_add_4 : decode cX7_add 4 = .ok (.ifCond .eq 80, 3) := by decide +kernel
theorem dX7_add_7 : decode cX7_add 7 = .ok (.aload_n 0, 1) := by decide +kernel
theorem dX7_add_8 : decode cX7_add 8 = .ok (.getfield 9, 3) := by decide +kernel
theorem dX7_add_11 : decode cX7_add 11 = .ok (.aload_n 0, 1) := by decide +kernel
theorem dX7_add_12 : decode cX7_add 12 = .ok (.getfield 31, 3) := by decide +kernel
theorem dX7_add_15 : decode cX7_add 15 = .ok (.iload_n 1, 1) := by decide +kernel
theorem dX7_add_16 : decode cX7_add 16 = .ok (.iastore, 1) := by decide +kernel
theorem dX7_add_17 : decode cX7_add 17 = .ok (.aload_n 0, 1) := by decide +kernel
theorem dX7_add_18 : decode cX7_add 18 = .ok (.getfield 15, 3) := by decide +kernel
theorem dX7_add_21 : decode cX7_add 21 = .ok (.aload_n 0, 1) := by decide +kernel
theorem dX7_add_22 : decode cX7_add 22 = .ok (.getfield 31, 3) := by decide +kernel
theorem dX7_add_25 : decode cX7_add 25 = .ok (.iload_n 2, 1) := by decide +kernel
theorem dX7_add_26 : decode cX7_add 26 = .ok (.iastore, 1) := by decide +kernel
theorem dX7_add_27 : decode cX7_add 27 = .ok (.aload_n 0, 1) := by decide +kernel
theorem dX7_add_28 : decode cX7_add 28 = .ok (.getfield 18, 3) := by decide +kernel
theorem dX7_add_31 : decode cX7_add 31 = .ok (.aload_n 0, 1) := by decide +kernel
theorem dX7_add_32 : decode cX7_add 32 = .ok (.getfield 31, 3) := by decide +kernel
theorem dX7_add_35 : decode cX7_add 35 = .ok (.iload_n 3, 1) := by decide +kernel
theorem dX7_add_36 : decode cX7_add 36 = .ok (.iastore, 1) := by decide +kernel
theorem dX7_add_37 : decode cX7_add 37 = .ok (.aload_n 0, 1) := by decide +kernel
theorem dX7_add_38 : decode cX7_add 38 = .ok (.getfield 21, 3) := by decide +kernel
theorem dX7_add_41 : decode cX7_add 41 = .ok (.aload_n 0, 1) := by decide +kernel
theorem dX7_add_42 : decode cX7_add 42 = .ok (.getfield 31, 3) := by decide +kernel
theorem dX7_add_45 : decode cX7_add 45 = .ok (.iconst 0, 1) := by decide +kernel
theorem dX7_add_46 : decode cX7_add 46 = .ok (.iastore, 1) := by decide +kernel
theorem dX7_add_47 : decode cX7_add 47 = .ok (.aload_n 0, 1) := by decide +kernel
theorem dX7_add_48 : decode cX7_add 48 = .ok (.getfield 24, 3) := by decide +kernel
theorem dX7_add_51 : decode cX7_add 51 = .ok (.aload_n 0, 1) := by decide +kernel
theorem dX7_add_52 : decode cX7_add 52 = .ok (.getfield 31, 3) := by decide +kernel
theorem dX7_add_55 : decode cX7_add 55 = .ok (.iconst 0, 1) := by decide +kernel
theorem dX7_add_56 : decode cX7_add 56 = .ok (.iastore, 1) := by decide +kernel
theorem dX7_add_57 : decode cX7_add 57 = .ok (.aload_n 0, 1) := by decide +kernel
theorem dX7_add_58 : decode cX7_add 58 = .ok (.dup, 1) := by decide +kernel
theorem dX7_add_59 : decode cX7_add 59 = .ok (.getfield 27, 3) := by decide +kernel
theorem dX7_add_62 : decode cX7_add 62 = .ok (.iconst 1, 1) := by decide +kernel
theorem dX7_add_63 : decode cX7_add 63 = .ok (.aload_n 0, 1) := by decide +kernel
theorem dX7_add_64 : decode cX7_add 64 = .ok (.getfield 31, 3) := by decide +kernel
theorem dX7_add_67 : decode cX7_add 67 = .ok (.ishl, 1) := by decide +kernel
theorem dX7_add_68 : decode cX7_add 68 = .ok (.iconst (-1), 1) := by decide +kernel
theorem dX7_add_69 : decode cX7_add 69 = .ok (.ixor, 1) := by decide +kernel
theorem dX7_add_70 : decode cX7_add 70 = .ok (.iand, 1) := by decide +kernel
theorem dX7_add_71 : decode cX7_add 71 = .ok (.putfield 27, 3) := by decide +kernel
theorem dX7_add_74 : decode cX7_add 74 = .ok (.aload_n 0, 1) := by decide +kernel
theorem dX7_add_75 : decode cX7_add 75 = .ok (.dup, 1) := by decide +kernel
theorem dX7_add_76 : decode cX7_add 76 = .ok (.getfield 31, 3) := by decide +kernel
theorem dX7_add_79 : decode cX7_add 79 = .ok (.iconst 1, 1) := by decide +kernel
theorem dX7_add_80 : decode cX7_add 80 = .ok (.iadd, 1) := by decide +kernel
theorem dX7_add_81 : decode cX7_add 81 = .ok (.putfield 31, 3) := by decide +kernel
theorem dX7_add_84 : decode cX7_add 84 = .ok (.return_, 1) := by decide +kernel
theorem dX7_openOrClose_0 : decode cX7_openOrClose 0 = .ok (.aload_n 0, 1) := by decide +kernel
theorem dX7_openOrClose_1 : decode cX7_openOrClose 1 = .ok (.dup, 1) := by decide +kernel
theorem dX7_openOrClose_2 : decode cX7_openOrClose 2 = .ok (.getfield 27, 3) := by decide +kernel
theorem dX7_openOrClose_5 : decode cX7_openOrClose 5 = .ok (.iconst 1, 1) := by decide +kernel
theorem dX7_openOrClose_6 : decode cX7_openOrClose 6 = .ok (.iload_n 1, 1) := by decide +kernel
theorem dX7_openOrClose_7 : decode cX7_openOrClose 7 = .ok (.ishl, 1) := by decide +kernel
theorem dX7_openOrClose_8 : decode cX7_openOrClose 8 = .ok (.ixor, 1) := by decide +kernel
theorem dX7_openOrClose_9 : decode cX7_openOrClose 9 = .ok (.putfield 27, 3) := by decide +kernel
theorem dX7_openOrClose_12 : decode cX7_openOrClose 12 = .ok (.return_, 1) := by decide +kernel
theorem dX7_close_0 : decode cX7_close 0 = .ok (.aload_n 0, 1) := by decide +kernel
theorem dX7_close_1 : decode cX7_close 1 = .ok (.dup, 1) := by decide +kernel
theorem dX7_close_2 : decode cX7_close 2 = .ok (.getfield 27, 3) := by decide +kernel
theorem dX7_close_5 : decode cX7_close 5 = .ok (.iload_n 1, 1) := by decide +kernel
theorem dX7_close_6 : decode cX7_close 6 = .ok (.ior, 1) := by decide +kernel
theorem dX7_close_7 : decode cX7_close 7 = .ok (.putfield 27, 3) := by decide +kernel
theorem dX7_close_10 : decode cX7_close 10 = .ok (.return_, 1) := by decide +kernel
theorem dX7_turnRound_0 : decode cX7_turnRound 0 = .ok (.aload_n 0, 1) := by decide +kernel
theorem dX7_turnRound_1 : decode cX7_turnRound 1 = .ok (.getfield 9, 3) := by decide +kernel
theorem dX7_turnRound_4 : decode cX7_turnRound 4 = .ok (.iload_n 1, 1) := by decide +kernel
theorem dX7_turnRound_5 : decode cX7_turnRound 5 = .ok (.iaload, 1) := by decide +kernel
theorem dX7_turnRound_6 : decode cX7_turnRound 6 = .ok (.istore_n 2, 1) := by decide +kernel
theorem dX7_turnRound_7 : decode cX7_turnRound 7 = .ok (.aload_n 0, 1) := by decide +kernel
theorem dX7_turnRound_8 : decode cX7_turnRound 8 = .ok (.getfield 9, 3) := by decide +kernel
theorem dX7_turnRound_11 : decode cX7_turnRound 11 = .ok (.iload_n 1, 1) := by decide +kernel
theorem dX7_turnRound_12 : decode cX7_turnRound 12 = .ok (.aload_n 0, 1) := by decide +kernel
theorem dX7_turnRound_13 : decode cX7_turnRound 13 = .ok (.getfield 15, 3) := by decide +kernel
theorem dX7_turnRound_16 : decode cX7_turnRound 16 = .ok (.iload_n 1, 1) := by decide +kernel
theorem dX7_turnRound_17 : decode cX7_turnRound 17 = .ok (.iaload, 1) := by decide +kernel
theorem dX7_turnRound_18 : decode cX7_turnRound 18 = .ok (.iastore, 1) := by decide +kernel
theorem dX7_turnRound_19 : decode cX7_turnRound 19 = .ok (.aload_n 0, 1) := by decide +kernel
theorem dX7_turnRound_20 : decode cX7_turnRound 20 = .ok (.getfield 15, 3) := by decide +kernel
theorem dX7_turnRound_23 : decode cX7_turnRound 23 = .ok (.iload_n 1, 1) := by decide +kernel
theorem dX7_turnRound_24 : decode cX7_turnRound 24 = .ok (.iload_n 2, 1) := by decide +kernel
theorem dX7_turnRound_25 : decode cX7_turnRound 25 = .ok (.iastore, 1) := by decide +kernel
theorem dX7_turnRound_26 : decode cX7_turnRound 26 = .ok (.return_, 1) := by decide +kernel
theorem dX7_isOpen_0 : decode cX7_isOpen 0 = .ok (.aload_n 0, 1) := by decide +kernel
theorem dX7_isOpen_1 : decode cX7_isOpen 1 = .ok (.getfield 27, 3) := by decide +kernel
theorem dX7_isOpen_4 : decode cX7_isOpen 4 = .ok (.iload_n 1, 1) := by decide +kernel
theorem dX7_isOpen_5 : decode cX7_isOpen 5 = .ok (.ishr, 1) := by decide +kernel
theorem dX7_isOpen_6 : decode cX7_isOpen 6 = .ok (.iconst 1, 1) := by decide +kernel
theorem dX7_isOpen_7 : decode cX7_isOpen 7 = .ok (.iand, 1) := by decide +kernel
theorem dX7_isOpen_8 : decode cX7_isOpen 8 = .ok (.ifCond .ne 7, 3) := by decide +kernel
theorem dX7_isOpen_11 : decode cX7_isOpen 11 = .ok (.iconst 1, 1) := by decide +kernel
theorem dX7_isOpen_12 : decode cX7_isOpen 12 = .ok (.goto 4, 3) := by decide +kernel
theorem dX7_isOpen_15 : decode cX7_isOpen 15 = .ok (.iconst 0, 1) := by decide +kernel
theorem dX7_isOpen_16 : decode cX7_isOpen 16 = .ok (.ireturn, 1) := by decide +kernel
theorem dX7_isDue_0 : decode cX7_isDue 0 = .ok (.aload_n 0, 1) := by decide +kernel
theorem dX7_isDue_1 : decode cX7_isDue 1 = .ok (.iload_n 1, 1) := by decide +kernel
theorem dX7_isDue_2 : decode cX7_isDue 2 = .ok (.invokevirtual 47, 3) := by decide +kernel
theorem dX7_isDue_5 : decode cX7_isDue 5 = .ok (.ifCond .eq 22, 3) := by decide +kernel
theorem dX7_isDue_8 : decode cX7_isDue 8 = .ok (.aload_n 0, 1) := by decide +kernel
theorem dX7_isDue_9 : decode cX7_isDue 9 = .ok (.getfield 21, 3) := by decide +kernel
theorem dX7_isDue_12 : decode cX7_isDue 12 = .ok (.iload_n 1, 1) := by decide +kernel
theorem dX7_isDue_13 : decode cX7_isDue 13 = .ok (.iaload, 1) := by decide +kernel
theorem dX7_isDue_14 : decode cX7_isDue 14 = .ok (.invokestatic 51, 3) := by decide +kernel
theorem dX7_isDue_17 : decode cX7_isDue 17 = .ok (.getfield 57, 3) := by decide +kernel
theorem dX7_isDue_20 : decode cX7_isDue 20 = .ok (.ifCond .eq 7, 3) := by decide +kernel
theorem dX7_isDue_23 : decode cX7_isDue 23 = .ok (.iconst 1, 1) := by decide +kernel
theorem dX7_isDue_24 : decode cX7_isDue 24 = .ok (.goto 4, 3) := by decide +kernel
theorem dX7_isDue_27 : decode cX7_isDue 27 = .ok (.iconst 0, 1) := by decide +kernel
theorem dX7_isDue_28 : decode cX7_isDue 28 = .ok (.ireturn, 1) := by decide +kernel
theorem dX7_costOn_0 : decode cX7_costOn 0 = .ok (.aload_n 0, 1) := by decide +kernel
theorem dX7_costOn_1 : decode cX7_costOn 1 = .ok (.iload_n 1, 1) := by decide +kernel
theorem dX7_costOn_2 : decode cX7_costOn 2 = .ok (.invokevirtual 47, 3) := by decide +kernel
theorem dX7_costOn_5 : decode cX7_costOn 5 = .ok (.ifCond .eq 30, 3) := by decide +kernel
theorem dX7_costOn_8 : decode cX7_costOn 8 = .ok (.aload_n 0, 1) := by decide +kernel
theorem dX7_costOn_9 : decode cX7_costOn 9 = .ok (.getfield 21, 3) := by decide +kernel
theorem dX7_costOn_12 : decode cX7_costOn 12 = .ok (.iload_n 1, 1) := by decide +kernel
theorem dX7_costOn_13 : decode cX7_costOn 13 = .ok (.iaload, 1) := by decide +kernel
theorem dX7_costOn_14 : decode cX7_costOn 14 = .ok (.invokestatic 51, 3) := by decide +kernel
theorem dX7_costOn_17 : decode cX7_costOn 17 = .ok (.aload_n 0, 1) := by decide +kernel
theorem dX7_costOn_18 : decode cX7_costOn 18 = .ok (.getfield 18, 3) := by decide +kernel
theorem dX7_costOn_21 : decode cX7_costOn 21 = .ok (.iload_n 1, 1) := by decide +kernel
theorem dX7_costOn_22 : decode cX7_costOn 22 = .ok (.iaload, 1) := by decide +kernel
theorem dX7_costOn_23 : decode cX7_costOn 23 = .ok (.aload_n 0, 1) := by decide +kernel
theorem dX7_costOn_24 : decode cX7_costOn 24 = .ok (.getfield 24, 3) := by decide +kernel
theorem dX7_costOn_27 : decode cX7_costOn 27 = .ok (.iload_n 1, 1) := by decide +kernel
theorem dX7_costOn_28 : decode cX7_costOn 28 = .ok (.iaload, 1) := by decide +kernel
theorem dX7_costOn_29 : decode cX7_costOn 29 = .ok (.invokevirtual 61, 3) := by decide +kernel
theorem dX7_costOn_32 : decode cX7_costOn 32 = .ok (.goto 5, 3) := by decide +kernel
theorem dX7_costOn_35 : decode cX7_costOn 35 = .ok (.ldc 65, 2) := by decide +kernel
theorem dX7_costOn_37 : decode cX7_costOn 37 = .ok (.ireturn, 1) := by decide +kernel
theorem dX7_costBack_0 : decode cX7_costBack 0 = .ok (.aload_n 0, 1) := by decide +kernel
theorem dX7_costBack_1 : decode cX7_costBack 1 = .ok (.iload_n 1, 1) := by decide +kernel
theorem dX7_costBack_2 : decode cX7_costBack 2 = .ok (.invokevirtual 47, 3) := by decide +kernel
theorem dX7_costBack_5 : decode cX7_costBack 5 = .ok (.ifCond .eq 30, 3) := by decide +kernel
theorem dX7_costBack_8 : decode cX7_costBack 8 = .ok (.aload_n 0, 1) := by decide +kernel
theorem dX7_costBack_9 : decode cX7_costBack 9 = .ok (.getfield 21, 3) := by decide +kernel
theorem dX7_costBack_12 : decode cX7_costBack 12 = .ok (.iload_n 1, 1) := by decide +kernel
theorem dX7_costBack_13 : decode cX7_costBack 13 = .ok (.iaload, 1) := by decide +kernel
theorem dX7_costBack_14 : decode cX7_costBack 14 = .ok (.invokestatic 51, 3) := by decide +kernel
theorem dX7_costBack_17 : decode cX7_costBack 17 = .ok (.aload_n 0, 1) := by decide +kernel
theorem dX7_costBack_18 : decode cX7_costBack 18 = .ok (.getfield 18, 3) := by decide +kernel
theorem dX7_costBack_21 : decode cX7_costBack 21 = .ok (.iload_n 1, 1) := by decide +kernel
theorem dX7_costBack_22 : decode cX7_costBack 22 = .ok (.iaload, 1) := by decide +kernel
theorem dX7_costBack_23 : decode cX7_costBack 23 = .ok (.aload_n 0, 1) := by decide +kernel
theorem dX7_costBack_24 : decode cX7_costBack 24 = .ok (.getfield 24, 3) := by decide +kernel
theorem dX7_costBack_27 : decode cX7_costBack 27 = .ok (.iload_n 1, 1) := by decide +kernel
theorem dX7_costBack_28 : decode cX7_costBack 28 = .ok (.iaload, 1) := by decide +kernel
theorem dX7_costBack_29 : decode cX7_costBack 29 = .ok (.invokevirtual 66, 3) := by decide +kernel
theorem dX7_costBack_32 : decode cX7_costBack 32 = .ok (.goto 5, 3) := by decide +kernel
theorem dX7_costBack_35 : decode cX7_costBack 35 = .ok (.ldc 65, 2) := by decide +kernel
theorem dX7_costBack_37 : decode cX7_costBack 37 = .ok (.ireturn, 1) := by decide +kernel
theorem dX7_touches_0 : decode cX7_touches 0 = .ok (.aload_n 0, 1) := by decide +kernel
theorem dX7_touches_1 : decode cX7_touches 1 = .ok (.getfield 9, 3) := by decide +kernel
theorem dX7_touches_4 : decode cX7_touches 4 = .ok (.iload_n 1, 1) := by decide +kernel
theorem dX7_touches_5 : decode cX7_touches 5 = .ok (.iaload, 1) := by decide +kernel
theorem dX7_touches_6 : decode cX7_touches 6 = .ok (.iload_n 2, 1) := by decide +kernel
theorem dX7_touches_7 : decode cX7_touches 7 = .ok (.if_icmp .eq 13, 3) := by decide +kernel
theorem dX7_touches_10 : decode cX7_touches 10 = .ok (.aload_n 0, 1) := by decide +kernel
theorem dX7_touches_11 : decode cX7_touches 11 = .ok (.getfield 15, 3) := by decide +kernel
theorem dX7_touches_14 : decode cX7_touches 14 = .ok (.iload_n 1, 1) := by decide +kernel
theorem dX7_touches_15 : decode cX7_touches 15 = .ok (.iaload, 1) := by decide +kernel
theorem dX7_touches_16 : decode cX7_touches 16 = .ok (.iload_n 2, 1) := by decide +kernel
theorem dX7_touches_17 : decode cX7_touches 17 = .ok (.if_icmp .ne 7, 3) := by decide +kernel
theorem dX7_touches_20 : decode cX7_touches 20 = .ok (.iconst 1, 1) := by decide +kernel
theorem dX7_touches_21 : decode cX7_touches 21 = .ok (.goto 4, 3) := by decide +kernel
theorem dX7_touches_24 : decode cX7_touches 24 = .ok (.iconst 0, 1) := by decide +kernel
theorem dX7_touches_25 : decode cX7_touches 25 = .ok (.ireturn, 1) := by decide +kernel
theorem dX7_otherEnd_0 : decode cX7_otherEnd 0 = .ok (.aload_n 0, 1) := by decide +kernel
theorem dX7_otherEnd_1 : decode cX7_otherEnd 1 = .ok (.getfield 9, 3) := by decide +kernel
theorem dX7_otherEnd_4 : decode cX7_otherEnd 4 = .ok (.iload_n 1, 1) := by decide +kernel
theorem dX7_otherEnd_5 : decode cX7_otherEnd 5 = .ok (.iaload, 1) := by decide +kernel
theorem dX7_otherEnd_6 : decode cX7_otherEnd 6 = .ok (.iload_n 2, 1) := by decide +kernel
theorem dX7_otherEnd_7 : decode cX7_otherEnd 7 = .ok (.if_icmp .ne 12, 3) := by decide +kernel
theorem dX7_otherEnd_10 : decode cX7_otherEnd 10 = .ok (.aload_n 0, 1) := by decide +kernel
theorem dX7_otherEnd_11 : decode cX7_otherEnd 11 = .ok (.getfield 15, 3) := by decide +kernel
theorem dX7_otherEnd_14 : decode cX7_otherEnd 14 = .ok (.iload_n 1, 1) := by decide +kernel
theorem dX7_otherEnd_15 : decode cX7_otherEnd 15 = .ok (.iaload, 1) := by decide +kernel
theorem dX7_otherEnd_16 : decode cX7_otherEnd 16 = .ok (.goto 9, 3) := by decide +kernel
theorem dX7_otherEnd_19 : decode cX7_otherEnd 19 = .ok (.aload_n 0, 1) := by decide +kernel
theorem dX7_otherEnd_20 : decode cX7_otherEnd 20 = .ok (.getfield 9, 3) := by decide +kernel
theorem dX7_otherEnd_23 : decode cX7_otherEnd 23 = .ok (.iload_n 1, 1) := by decide +kernel
theorem dX7_otherEnd_24 : decode cX7_otherEnd 24 = .ok (.iaload, 1) := by decide +kernel
theorem dX7_otherEnd_25 : decode cX7_otherEnd 25 = .ok (.ireturn, 1) := by decide +kernel
theorem dX7_openStreets_0 : decode cX7_openStreets 0 = .ok (.iconst 1, 1) := by decide +kernel
theorem dX7_openStreets_1 : decode cX7_openStreets 1 = .ok (.aload_n 0, 1) := by decide +kernel
theorem dX7_openStreets_2 : decode cX7_openStreets 2 = .ok (.getfield 31, 3) := by decide +kernel
theorem dX7_openStreets_5 : decode cX7_openStreets 5 = .ok (.ishl, 1) := by decide +kernel
theorem dX7_openStreets_6 : decode cX7_openStreets 6 = .ok (.iconst 1, 1) := by decide +kernel
theorem dX7_openStreets_7 : decode cX7_openStreets 7 = .ok (.isub, 1) := by decide +kernel
theorem dX7_openStreets_8 : decode cX7_openStreets 8 = .ok (.aload_n 0, 1) := by decide +kernel
theorem dX7_openStreets_9 : decode cX7_openStreets 9 = .ok (.getfield 27, 3) := by decide +kernel
theorem dX7_openStreets_12 : decode cX7_openStreets 12 = .ok (.iconst (-1), 1) := by decide +kernel
theorem dX7_openStreets_13 : decode cX7_openStreets 13 = .ok (.ixor, 1) := by decide +kernel
theorem dX7_openStreets_14 : decode cX7_openStreets 14 = .ok (.iand, 1) := by decide +kernel
theorem dX7_openStreets_15 : decode cX7_openStreets 15 = .ok (.ireturn, 1) := by decide +kernel
theorem dX7_dueStreets_0 : decode cX7_dueStreets 0 = .ok (.iconst 0, 1) := by decide +kernel
theorem dX7_dueStreets_1 : decode cX7_dueStreets 1 = .ok (.istore_n 1, 1) := by decide +kernel
theorem dX7_dueStreets_2 : decode cX7_dueStreets 2 = .ok (.iconst 0, 1) := by decide +kernel
theorem dX7_dueStreets_3 : decode cX7_dueStreets 3 = .ok (.istore_n 2, 1) := by decide +kernel
theorem dX7_dueStreets_4 : decode cX7_dueStreets 4 = .ok (.iload_n 2, 1) := by decide +kernel
theorem dX7_dueStreets_5 : decode cX7_dueStreets 5 = .ok (.aload_n 0, 1) := by decide +kernel
theorem dX7_dueStreets_6 : decode cX7_dueStreets 6 = .ok (.getfield 31, 3) := by decide +kernel
theorem dX7_dueStreets_9 : decode cX7_dueStreets 9 = .ok (.if_icmp .ge 23, 3) := by decide +kernel
theorem dX7_dueStreets_12 : decode cX7_dueStreets 12 = .ok (.aload_n 0, 1) := by decide +kernel
theorem dX7_dueStreets_13 : decode cX7_dueStreets 13 = .ok (.iload_n 2, 1) := by decide +kernel
theorem dX7_dueStreets_14 : decode cX7_dueStreets 14 = .ok (.invokevirtual 69, 3) := by decide +kernel
theorem dX7_dueStreets_17 : decode cX7_dueStreets 17 = .ok (.ifCond .eq 9, 3) := by decide +kernel
theorem dX7_dueStreets_20 : decode cX7_dueStreets 20 = .ok (.iload_n 1, 1) := by decide +kernel
theorem dX7_dueStreets_21 : decode cX7_dueStreets 21 = .ok (.iconst 1, 1) := by decide +kernel
theorem dX7_dueStreets_22 : decode cX7_dueStreets 22 = .ok (.iload_n 2, 1) := by decide +kernel
theorem dX7_dueStreets_23 : decode cX7_dueStreets 23 = .ok (.ishl, 1) := by decide +kernel
theorem dX7_dueStreets_24 : decode cX7_dueStreets 24 = .ok (.ior, 1) := by decide +kernel
theorem dX7_dueStreets_25 : decode cX7_dueStreets 25 = .ok (.istore_n 1, 1) := by decide +kernel
theorem dX7_dueStreets_26 : decode cX7_dueStreets 26 = .ok (.iinc 2 1, 3) := by decide +kernel
theorem dX7_dueStreets_29 : decode cX7_dueStreets 29 = .ok (.goto (-25), 3) := by decide +kernel
theorem dX7_dueStreets_32 : decode cX7_dueStreets 32 = .ok (.iload_n 1, 1) := by decide +kernel
theorem dX7_dueStreets_33 : decode cX7_dueStreets 33 = .ok (.ireturn, 1) := by decide +kernel
theorem dX7_lengthsTogether_0 : decode cX7_lengthsTogether 0 = .ok (.iconst 0, 1) := by decide +kernel
theorem dX7_lengthsTogether_1 : decode cX7_lengthsTogether 1 = .ok (.istore_n 1, 1) := by decide +kernel
theorem dX7_lengthsTogether_2 : decode cX7_lengthsTogether 2 = .ok (.iconst 0, 1) := by decide +kernel
theorem dX7_lengthsTogether_3 : decode cX7_lengthsTogether 3 = .ok (.istore_n 2, 1) := by decide +kernel
theorem dX7_lengthsTogether_4 : decode cX7_lengthsTogether 4 = .ok (.iload_n 2, 1) := by decide +kernel
theorem dX7_lengthsTogether_5 : decode cX7_lengthsTogether 5 = .ok (.aload_n 0, 1) := by decide +kernel
theorem dX7_lengthsTogether_6 : decode cX7_lengthsTogether 6 = .ok (.getfield 31, 3) := by decide +kernel
theorem dX7_lengthsTogether_9 : decode cX7_lengthsTogether 9 = .ok (.if_icmp .ge 18, 3) := by decide +kernel
theorem dX7_lengthsTogether_12 : decode cX7_lengthsTogether 12 = .ok (.iload_n 1, 1) := by decide +kernel
theorem dX7_lengthsTogether_13 : decode cX7_lengthsTogether 13 = .ok (.aload_n 0, 1) := by decide +kernel
theorem dX7_lengthsTogether_14 : decode cX7_lengthsTogether 14 = .ok (.getfield 18, 3) := by decide +kernel
theorem dX7_lengthsTogether_17 : decode cX7_lengthsTogether 17 = .ok (.iload_n 2, 1) := by decide +kernel
theorem dX7_lengthsTogether_18 : decode cX7_lengthsTogether 18 = .ok (.iaload, 1) := by decide +kernel
theorem dX7_lengthsTogether_19 : decode cX7_lengthsTogether 19 = .ok (.iadd, 1) := by decide +kernel
theorem dX7_lengthsTogether_20 : decode cX7_lengthsTogether 20 = .ok (.istore_n 1, 1) := by decide +kernel
theorem dX7_lengthsTogether_21 : decode cX7_lengthsTogether 21 = .ok (.iinc 2 1, 3) := by decide +kernel
theorem dX7_lengthsTogether_24 : decode cX7_lengthsTogether 24 = .ok (.goto (-20), 3) := by decide +kernel
theorem dX7_lengthsTogether_27 : decode cX7_lengthsTogether 27 = .ok (.iload_n 1, 1) := by decide +kernel
theorem dX7_lengthsTogether_28 : decode cX7_lengthsTogether 28 = .ok (.ireturn, 1) := by decide +kernel
theorem dX7_streetsAt_0 : decode cX7_streetsAt 0 = .ok (.iconst 0, 1) := by decide +kernel
theorem dX7_streetsAt_1 : decode cX7_streetsAt 1 = .ok (.istore_n 2, 1) := by decide +kernel
theorem dX7_streetsAt_2 : decode cX7_streetsAt 2 = .ok (.iconst 0, 1) := by decide +kernel
theorem dX7_streetsAt_3 : decode cX7_streetsAt 3 = .ok (.istore_n 3, 1) := by decide +kernel
theorem dX7_streetsAt_4 : decode cX7_streetsAt 4 = .ok (.iload_n 3, 1) := by decide +kernel
theorem dX7_streetsAt_5 : decode cX7_streetsAt 5 = .ok (.aload_n 0, 1) := by decide +kernel
theorem dX7_streetsAt_6 : decode cX7_streetsAt 6 = .ok (.getfield 31, 3) := by decide +kernel
theorem dX7_streetsAt_9 : decode cX7_streetsAt 9 = .ok (.if_icmp .ge 24, 3) := by decide +kernel
theorem dX7_streetsAt_12 : decode cX7_streetsAt 12 = .ok (.aload_n 0, 1) := by decide +kernel
theorem dX7_streetsAt_13 : decode cX7_streetsAt 13 = .ok (.iload_n 3, 1) := by decide +kernel
theorem dX7_streetsAt_14 : decode cX7_streetsAt 14 = .ok (.iload_n 1, 1) := by decide +kernel
theorem dX7_streetsAt_15 : decode cX7_streetsAt 15 = .ok (.invokevirtual 72, 3) := by decide +kernel
theorem dX7_streetsAt_18 : decode cX7_streetsAt 18 = .ok (.ifCond .eq 9, 3) := by decide +kernel
theorem dX7_streetsAt_21 : decode cX7_streetsAt 21 = .ok (.iload_n 2, 1) := by decide +kernel
theorem dX7_streetsAt_22 : decode cX7_streetsAt 22 = .ok (.iconst 1, 1) := by decide +kernel
theorem dX7_streetsAt_23 : decode cX7_streetsAt 23 = .ok (.iload_n 3, 1) := by decide +kernel
theorem dX7_streetsAt_24 : decode cX7_streetsAt 24 = .ok (.ishl, 1) := by decide +kernel
theorem dX7_streetsAt_25 : decode cX7_streetsAt 25 = .ok (.ior, 1) := by decide +kernel
theorem dX7_streetsAt_26 : decode cX7_streetsAt 26 = .ok (.istore_n 2, 1) := by decide +kernel
theorem dX7_streetsAt_27 : decode cX7_streetsAt 27 = .ok (.iinc 3 1, 3) := by decide +kernel
theorem dX7_streetsAt_30 : decode cX7_streetsAt 30 = .ok (.goto (-26), 3) := by decide +kernel
theorem dX7_streetsAt_33 : decode cX7_streetsAt 33 = .ok (.iload_n 2, 1) := by decide +kernel
theorem dX7_streetsAt_34 : decode cX7_streetsAt 34 = .ok (.ireturn, 1) := by decide +kernel
theorem dX7_degree_0 : decode cX7_degree 0 = .ok (.aload_n 0, 1) := by decide +kernel
theorem dX7_degree_1 : decode cX7_degree 1 = .ok (.iload_n 1, 1) := by decide +kernel
theorem dX7_degree_2 : decode cX7_degree 2 = .ok (.invokevirtual 76, 3) := by decide +kernel
theorem dX7_degree_5 : decode cX7_degree 5 = .ok (.aload_n 0, 1) := by decide +kernel
theorem dX7_degree_6 : decode cX7_degree 6 = .ok (.invokevirtual 80, 3) := by decide +kernel
theorem dX7_degree_9 : decode cX7_degree 9 = .ok (.iand, 1) := by decide +kernel
theorem dX7_degree_10 : decode cX7_degree 10 = .ok (.invokestatic 84, 3) := by decide +kernel
theorem dX7_degree_13 : decode cX7_degree 13 = .ok (.ireturn, 1) := by decide +kernel
theorem dX7_oddCorners_0 : decode cX7_oddCorners 0 = .ok (.iconst 0, 1) := by decide +kernel
theorem dX7_oddCorners_1 : decode cX7_oddCorners 1 = .ok (.istore_n 1, 1) := by decide +kernel
theorem dX7_oddCorners_2 : decode cX7_oddCorners 2 = .ok (.iconst 0, 1) := by decide +kernel
theorem dX7_oddCorners_3 : decode cX7_oddCorners 3 = .ok (.istore_n 2, 1) := by decide +kernel
theorem dX7_oddCorners_4 : decode cX7_oddCorners 4 = .ok (.iload_n 2, 1) := by decide +kernel
theorem dX7_oddCorners_5 : decode cX7_oddCorners 5 = .ok (.bipush 6, 2) := by decide +kernel
theorem dX7_oddCorners_7 : decode cX7_oddCorners 7 = .ok (.if_icmp .ge 21, 3) := by decide +kernel
theorem dX7_oddCorners_10 : decode cX7_oddCorners 10 = .ok (.iload_n 1, 1) := by decide +kernel
theorem dX7_oddCorners_11 : decode cX7_oddCorners 11 = .ok (.aload_n 0, 1) := by decide +kernel
theorem dX7_oddCorners_12 : decode cX7_oddCorners 12 = .ok (.iload_n 2, 1) := by decide +kernel
theorem dX7_oddCorners_13 : decode cX7_oddCorners 13 = .ok (.invokevirtual 89, 3) := by decide +kernel
theorem dX7_oddCorners_16 : decode cX7_oddCorners 16 = .ok (.iconst 1, 1) := by decide +kernel
theorem dX7_oddCorners_17 : decode cX7_oddCorners 17 = .ok (.iand, 1) := by decide +kernel
theorem dX7_oddCorners_18 : decode cX7_oddCorners 18 = .ok (.iload_n 2, 1) := by decide +kernel
theorem dX7_oddCorners_19 : decode cX7_oddCorners 19 = .ok (.ishl, 1) := by decide +kernel
theorem dX7_oddCorners_20 : decode cX7_oddCorners 20 = .ok (.ior, 1) := by decide +kernel
theorem dX7_oddCorners_21 : decode cX7_oddCorners 21 = .ok (.istore_n 1, 1) := by decide +kernel
theorem dX7_oddCorners_22 : decode cX7_oddCorners 22 = .ok (.iinc 2 1, 3) := by decide +kernel
theorem dX7_oddCorners_25 : decode cX7_oddCorners 25 = .ok (.goto (-21), 3) := by decide +kernel
theorem dX7_oddCorners_28 : decode cX7_oddCorners 28 = .ok (.iload_n 1, 1) := by decide +kernel
theorem dX7_oddCorners_29 : decode cX7_oddCorners 29 = .ok (.ireturn, 1) := by decide +kernel
theorem dX7_balanceOf_0 : decode cX7_balanceOf 0 = .ok (.iconst 0, 1) := by decide +kernel
theorem dX7_balanceOf_1 : decode cX7_balanceOf 1 = .ok (.istore_n 2, 1) := by decide +kernel
theorem dX7_balanceOf_2 : decode cX7_balanceOf 2 = .ok (.iconst 0, 1) := by decide +kernel
theorem dX7_balanceOf_3 : decode cX7_balanceOf 3 = .ok (.istore_n 3, 1) := by decide +kernel
theorem dX7_balanceOf_4 : decode cX7_balanceOf 4 = .ok (.iload_n 3, 1) := by decide +kernel
theorem dX7_balanceOf_5 : decode cX7_balanceOf 5 = .ok (.aload_n 0, 1) := by decide +kernel
theorem dX7_balanceOf_6 : decode cX7_balanceOf 6 = .ok (.getfield 31, 3) := by decide +kernel
theorem dX7_balanceOf_9 : decode cX7_balanceOf 9 = .ok (.if_icmp .ge 68, 3) := by decide +kernel
theorem dX7_balanceOf_12 : decode cX7_balanceOf 12 = .ok (.aload_n 0, 1) := by decide +kernel
theorem dX7_balanceOf_13 : decode cX7_balanceOf 13 = .ok (.iload_n 3, 1) := by decide +kernel
theorem dX7_balanceOf_14 : decode cX7_balanceOf 14 = .ok (.invokevirtual 69, 3) := by decide +kernel
theorem dX7_balanceOf_17 : decode cX7_balanceOf 17 = .ok (.ifCond .eq 54, 3) := by decide +kernel
theorem dX7_balanceOf_20 : decode cX7_balanceOf 20 = .ok (.aload_n 0, 1) := by decide +kernel
theorem dX7_balanceOf_21 : decode cX7_balanceOf 21 = .ok (.getfield 21, 3) := by decide +kernel
theorem dX7_balanceOf_24 : decode cX7_balanceOf 24 = .ok (.iload_n 3, 1) := by decide +kernel
theorem dX7_balanceOf_25 : decode cX7_balanceOf 25 = .ok (.iaload, 1) := by decide +kernel
theorem dX7_balanceOf_26 : decode cX7_balanceOf 26 = .ok (.invokestatic 51, 3) := by decide +kernel
theorem dX7_balanceOf_29 : decode cX7_balanceOf 29 = .ok (.getfield 92, 3) := by decide +kernel
theorem dX7_balanceOf_32 : decode cX7_balanceOf 32 = .ok (.ifCond .ne 39, 3) := by decide +kernel
theorem dX7_balanceOf_35 : decode cX7_balanceOf 35 = .ok (.iload_n 2, 1) := by decide +kernel
theorem dX7_balanceOf_36 : decode cX7_balanceOf 36 = .ok (.aload_n 0, 1) := by decide +kernel
theorem dX7_balanceOf_37 : decode cX7_balanceOf 37 = .ok (.getfield 9, 3) := by decide +kernel
theorem dX7_balanceOf_40 : decode cX7_balanceOf 40 = .ok (.iload_n 3, 1) := by decide +kernel
theorem dX7_balanceOf_41 : decode cX7_balanceOf 41 = .ok (.iaload, 1) := by decide +kernel
theorem dX7_balanceOf_42 : decode cX7_balanceOf 42 = .ok (.iload_n 1, 1) := by decide +kernel
theorem dX7_balanceOf_43 : decode cX7_balanceOf 43 = .ok (.if_icmp .ne 7, 3) := by decide +kernel
theorem dX7_balanceOf_46 : decode cX7_balanceOf 46 = .ok (.iconst 1, 1) := by decide +kernel
theorem dX7_balanceOf_47 : decode cX7_balanceOf 47 = .ok (.goto 4, 3) := by decide +kernel
theorem dX7_balanceOf_50 : decode cX7_balanceOf 50 = .ok (.iconst 0, 1) := by decide +kernel
theorem dX7_balanceOf_51 : decode cX7_balanceOf 51 = .ok (.iadd, 1) := by decide +kernel
theorem dX7_balanceOf_52 : decode cX7_balanceOf 52 = .ok (.istore_n 2, 1) := by decide +kernel
theorem dX7_balanceOf_53 : decode cX7_balanceOf 53 = .ok (.iload_n 2, 1) := by decide +kernel
theorem dX7_balanceOf_54 : decode cX7_balanceOf 54 = .ok (.aload_n 0, 1) := by decide +kernel
theorem dX7_balanceOf_55 : decode cX7_balanceOf 55 = .ok (.getfield 15, 3) := by decide +kernel
theorem dX7_balanceOf_58 : decode cX7_balanceOf 58 = .ok (.iload_n 3, 1) := by decide +kernel
theorem dX7_balanceOf_59 : decode cX7_balanceOf 59 = .ok (.iaload, 1) := by decide +kernel
theorem dX7_balanceOf_60 : decode cX7_balanceOf 60 = .ok (.iload_n 1, 1) := by decide +kernel
theorem dX7_balanceOf_61 : decode cX7_balanceOf 61 = .ok (.if_icmp .ne 7, 3) := by decide +kernel
theorem dX7_balanceOf_64 : decode cX7_balanceOf 64 = .ok (.iconst 1, 1) := by decide +kernel
theorem dX7_balanceOf_65 : decode cX7_balanceOf 65 = .ok (.goto 4, 3) := by decide +kernel
theorem dX7_balanceOf_68 : decode cX7_balanceOf 68 = .ok (.iconst 0, 1) := by decide +kernel
theorem dX7_balanceOf_69 : decode cX7_balanceOf 69 = .ok (.isub, 1) := by decide +kernel
theorem dX7_balanceOf_70 : decode cX7_balanceOf 70 = .ok (.istore_n 2, 1) := by decide +kernel
theorem dX7_balanceOf_71 : decode cX7_balanceOf 71 = .ok (.iinc 3 1, 3) := by decide +kernel
theorem dX7_balanceOf_74 : decode cX7_balanceOf 74 = .ok (.goto (-70), 3) := by decide +kernel
theorem dX7_balanceOf_77 : decode cX7_balanceOf 77 = .ok (.iload_n 2, 1) := by decide +kernel
theorem dX7_balanceOf_78 : decode cX7_balanceOf 78 = .ok (.ireturn, 1) := by decide +kernel
theorem dX8_init_0 : decode cX8_init 0 = .ok (.aload_n 0, 1) := by decide +kernel
theorem dX8_init_1 : decode cX8_init 1 = .ok (.invokespecial 3, 3) := by decide +kernel
theorem dX8_init_4 : decode cX8_init 4 = .ok (.aload_n 0, 1) := by decide +kernel
theorem dX8_init_5 : decode cX8_init 5 = .ok (.new 9, 3) := by decide +kernel
theorem dX8_init_8 : decode cX8_init 8 = .ok (.dup, 1) := by decide +kernel
theorem dX8_init_9 : decode cX8_init 9 = .ok (.invokespecial 11, 3) := by decide +kernel
theorem dX8_init_12 : decode cX8_init 12 = .ok (.putfield 12, 3) := by decide +kernel
theorem dX8_init_15 : decode cX8_init 15 = .ok (.aload_n 0, 1) := by decide +kernel
theorem dX8_init_16 : decode cX8_init 16 = .ok (.bipush 8, 2) := by decide +kernel
theorem dX8_init_18 : decode cX8_init 18 = .ok (.newarray .int, 2) := by decide +kernel
theorem dX8_init_20 : decode cX8_init 20 = .ok (.putfield 18, 3) := by decide +kernel
theorem dX8_init_23 : decode cX8_init 23 = .ok (.aload_n 0, 1) := by decide +kernel
theorem dX8_init_24 : decode cX8_init 24 = .ok (.bipush 8, 2) := by decide +kernel
theorem dX8_init_26 : decode cX8_init 26 = .ok (.newarray .int, 2) := by decide +kernel
theorem dX8_init_28 : decode cX8_init 28 = .ok (.putfield 22, 3) := by decide +kernel
theorem dX8_init_31 : decode cX8_init 31 = .ok (.aload_n 0, 1) := by decide +kernel
theorem dX8_init_32 : decode cX8_init 32 = .ok (.bipush 36, 2) := by decide +kernel
theorem dX8_init_34 : decode cX8_init 34 = .ok (.newarray .int, 2) := by decide +kernel
theorem dX8_init_36 : decode cX8_init 36 = .ok (.putfield 25, 3) := by decide +kernel
theorem dX8_init_39 : decode cX8_init 39 = .ok (.return_, 1) := by decide +kernel
theorem dX8_learn_0 : decode cX8_learn 0 = .ok (.aload_n 0, 1) := by decide +kernel
theorem dX8_learn_1 : decode cX8_learn 1 = .ok (.getfield 12, 3) := by decide +kernel
theorem dX8_learn_4 : decode cX8_learn 4 = .ok (.aload_n 1, 1) := by decide +kernel
theorem dX8_learn_5 : decode cX8_learn 5 = .ok (.invokevirtual 28, 3) := by decide +kernel
theorem dX8_learn_8 : decode cX8_learn 8 = .ok (.iconst 0, 1) := by decide +kernel
theorem dX8_learn_9 : decode cX8_learn 9 = .ok (.istore_n 3, 1) := by decide +kernel
theorem dX8_learn_10 : decode cX8_learn 10 = .ok (.iload_n 3, 1) := by decide +kernel
theorem dX8_learn_11 : decode cX8_learn 11 = .ok (.aload_n 0, 1) := by decide +kernel
theorem dX8_learn_12 : decode cX8_learn 12 = .ok (.getfield 12, 3) := by decide +kernel
theorem dX8_learn_15 : decode cX8_learn 15 = .ok (.getfield 32, 3) := by decide +kernel
theorem dX8_learn_18 : decode cX8_learn 18 = .ok (.if_icmp .ge 67, 3) := by decide +kernel
theorem dX8_learn_21 : decode cX8_learn 21 = .ok (.aload_n 0, 1) := by decide +kernel
theorem dX8_learn_22 : decode cX8_learn 22 = .ok (.getfield 18, 3) := by decide +kernel
theorem dX8_learn_25 : decode cX8_learn 25 = .ok (.iload_n 3, 1) := by decide +kernel
theorem dX8_learn_26 : decode cX8_learn 26 = .ok (.iload_n 2, 1) := by decide +kernel
theorem dX8_learn_27 : decode cX8_learn 27 = .ok (.ifCond .eq 14, 3) := by decide +kernel
theorem dX8_learn_30 : decode cX8_learn 30 = .ok (.aload_n 0, 1) := by decide +kernel
theorem dX8_learn_31 : decode cX8_learn 31 = .ok (.getfield 12, 3) := by decide +kernel
theorem dX8_learn_34 : decode cX8_learn 34 = .ok (.iload_n 3, 1) := by decide +kernel
theorem dX8_learn_35 : decode cX8_learn 35 = .ok (.invokevirtual 36, 3) := by decide +kernel
theorem dX8_learn_38 : decode cX8_learn 38 = .ok (.goto 11, 3) := by decide +kernel
theorem dX8_learn_41 : decode cX8_learn 41 = .ok (.aload_n 0, 1) := by decide +kernel
theorem dX8_learn_42 : decode cX8_learn 42 = .ok (.getfield 12, 3) := by decide +kernel
theorem dX8_learn_45 : decode cX8_learn 45 = .ok (.iload_n 3, 1) := by decide +kernel
theorem dX8_learn_46 : decode cX8_learn 46 = .ok (.invokevirtual 40, 3) := by decide +kernel
theorem dX8_learn_49 : decode cX8_learn 49 = .ok (.iastore, 1) := by decide +kernel
theorem dX8_learn_50 : decode cX8_learn 50 = .ok (.aload_n 0, 1) := by decide +kernel
theorem dX8_learn_51 : decode cX8_learn 51 = .ok (.getfield 22, 3) := by decide +kernel
theorem dX8_learn_54 : decode cX8_learn 54 = .ok (.iload_n 3, 1) := by decide +kernel
theorem dX8_learn_55 : decode cX8_learn 55 = .ok (.iload_n 2, 1) := by decide +kernel
theorem dX8_learn_56 : decode cX8_learn 56 = .ok (.ifCond .eq 14, 3) := by decide +kernel
theorem dX8_learn_59 : decode cX8_learn 59 = .ok (.aload_n 0, 1) := by decide +kernel
theorem dX8_learn_60 : decode cX8_learn 60 = .ok (.getfield 12, 3) := by decide +kernel
theorem dX8_learn_63 : decode cX8_learn 63 = .ok (.iload_n 3, 1) := by decide +kernel
theorem dX8_learn_64 : decode cX8_learn 64 = .ok (.invokevirtual 40, 3) := by decide +kernel
theorem dX8_learn_67 : decode cX8_learn 67 = .ok (.goto 11, 3) := by decide +kernel
theorem dX8_learn_70 : decode cX8_learn 70 = .ok (.aload_n 0, 1) := by decide +kernel
theorem dX8_learn_71 : decode cX8_learn 71 = .ok (.getfield 12, 3) := by decide +kernel
theorem dX8_learn_74 : decode cX8_learn 74 = .ok (.iload_n 3, 1) := by decide +kernel
theorem dX8_learn_75 : decode cX8_learn 75 = .ok (.invokevirtual 36, 3) := by decide +kernel
theorem dX8_learn_78 : decode cX8_learn 78 = .ok (.iastore, 1) := by decide +kernel
theorem dX8_learn_79 : decode cX8_learn 79 = .ok (.iinc 3 1, 3) := by decide +kernel
theorem dX8_learn_82 : decode cX8_learn 82 = .ok (.goto (-72), 3) := by decide +kernel
theorem dX8_learn_85 : decode cX8_learn 85 = .ok (.aload_n 0, 1) := by decide +kernel
theorem dX8_learn_86 : decode cX8_learn 86 = .ok (.invokevirtual 43, 3) := by decide +kernel
theorem dX8_learn_89 : decode cX8_learn 89 = .ok (.return_, 1) := by decide +kernel
theorem dX8_measure_0 : decode cX8_measure 0 = .ok (.iconst 0, 1) := by decide +kernel
theorem dX8_measure_1 : decode cX8_measure 1 = .ok (.istore_n 1, 1) := by decide +kernel
theorem dX8_measure_2 : decode cX8_measure 2 = .ok (.iload_n 1, 1) := by decide +kernel
theorem dX8_measure_3 : decode cX8_measure 3 = .ok (.aload_n 0, 1) := by decide +kernel
theorem dX8_measure_4 : decode cX8_measure 4 = .ok (.getfield 25, 3) := by decide +kernel
theorem dX8_measure_7 : decode cX8_measure 7 = .ok (.arraylength, 1) := by decide +kernel
theorem dX8_measure_8 : decode cX8_measure 8 = .ok (.if_icmp .ge 28, 3) := by decide +kernel
theorem dX8_measure_11 : decode cX8_measure 11 = .ok (.aload_n 0, 1) := by decide +kernel
theorem dX8_measure_12 : decode cX8_measure 12 = .ok (.getfield 25, 3) := by decide +kernel
theorem dX8_measure_15 : decode cX8_measure 15 = .ok (.iload_n 1, 1) := by decide +kernel
theorem dX8_measure_16 : decode cX8_measure 16 = .ok (.iload_n 1, 1) := by decide +kernel
theorem dX8_measure_17 : decode cX8_measure 17 = .ok (.bipush 7, 2) := by decide +kernel
theorem dX8_measure_19 : decode cX8_measure 19 = .ok (.irem, 1) := by decide +kernel
theorem dX8_measure_20 : decode cX8_measure 20 = .ok (.ifCond .ne 7, 3) := by decide +kernel
theorem dX8_measure_23 : decode cX8_measure 23 = .ok (.iconst 0, 1) := by decide +kernel
theorem dX8_measure_24 : decode cX8_measure 24 = .ok (.goto 5, 3) := by decide +kernel
theorem dX8_measure_27 : decode cX8_measure 27 = .ok (.ldc 46, 2) := by decide +kernel
theorem dX8_measure_29 : decode cX8_measure 29 = .ok (.iastore, 1) := by decide +kernel
theorem dX8_measure_30 : decode cX8_measure 30 = .ok (.iinc 1 1, 3) := by decide +kernel
theorem dX8_measure_33 : decode cX8_measure 33 = .ok (.goto (-31), 3) := by decide +kernel
theorem dX8_measure_36 : decode cX8_measure 36 = .ok (.iconst 0, 1) := by decide +kernel
theorem dX8_measure_37 : decode cX8_measure 37 = .ok (.istore_n 1, 1) := by decide +kernel
theorem dX8_measure_38 : decode cX8_measure 38 = .ok (.iload_n 1, 1) := by decide +kernel
theorem dX8_measure_39 : decode cX8_measure 39 = .ok (.aload_n 0, 1) := by decide +kernel
theorem dX8_measure_40 : decode cX8_measure 40 = .ok (.getfield 12, 3) := by decide +kernel
theorem dX8_measure_43 : decode cX8_measure 43 = .ok (.getfield 32, 3) := by decide +kernel
theorem dX8_measure_46 : decode cX8_measure 46 = .ok (.if_icmp .ge 65, 3) := by decide +kernel
theorem dX8_measure_49 : decode cX8_measure 49 = .ok (.aload_n 0, 1) := by decide +kernel
theorem dX8_measure_50 : decode cX8_measure 50 = .ok (.aload_n 0, 1) := by decide +kernel
theorem dX8_measure_51 : decode cX8_measure 51 = .ok (.getfield 12, 3) := by decide +kernel
theorem dX8_measure_54 : decode cX8_measure 54 = .ok (.getfield 47, 3) := by decide +kernel
theorem dX8_measure_57 : decode cX8_measure 57 = .ok (.iload_n 1, 1) := by decide +kernel
theorem dX8_measure_58 : decode cX8_measure 58 = .ok (.iaload, 1) := by decide +kernel
theorem dX8_measure_59 : decode cX8_measure 59 = .ok (.aload_n 0, 1) := by decide +kernel
theorem dX8_measure_60 : decode cX8_measure 60 = .ok (.getfield 12, 3) := by decide +kernel
theorem dX8_measure_63 : decode cX8_measure 63 = .ok (.getfield 50, 3) := by decide +kernel
theorem dX8_measure_66 : decode cX8_measure 66 = .ok (.iload_n 1, 1) := by decide +kernel
theorem dX8_measure_67 : decode cX8_measure 67 = .ok (.iaload, 1) := by decide +kernel
theorem dX8_measure_68 : decode cX8_measure 68 = .ok (.aload_n 0, 1) := by decide +kernel
theorem dX8_measure_69 : decode cX8_measure 69 = .ok (.getfield 18, 3) := by decide +kernel
theorem dX8_measure_72 : decode cX8_measure 72 = .ok (.iload_n 1, 1) := by decide +kernel
theorem dX8_measure_73 : decode cX8_measure 73 = .ok (.iaload, 1) := by decide +kernel
theorem dX8_measure_74 : decode cX8_measure 74 = .ok (.invokevirtual 53, 3) := by decide +kernel
theorem dX8_measure_77 : decode cX8_measure 77 = .ok (.aload_n 0, 1) := by decide +kernel
theorem dX8_measure_78 : decode cX8_measure 78 = .ok (.aload_n 0, 1) := by decide +kernel
theorem dX8_measure_79 : decode cX8_measure 79 = .ok (.getfield 12, 3) := by decide +kernel
theorem dX8_measure_82 : decode cX8_measure 82 = .ok (.getfield 50, 3) := by decide +kernel
theorem dX8_measure_85 : decode cX8_measure 85 = .ok (.iload_n 1, 1) := by decide +kernel
theorem dX8_measure_86 : decode cX8_measure 86 = .ok (.iaload, 1) := by decide +kernel
theorem dX8_measure_87 : decode cX8_measure 87 = .ok (.aload_n 0, 1) := by decide +kernel
theorem dX8_measure_88 : decode cX8_measure 88 = .ok (.getfield 12, 3) := by decide +kernel
theorem dX8_measure_91 : decode cX8_measure 91 = .ok (.getfield 47, 3) := by decide +kernel
theorem dX8_measure_94 : decode cX8_measure 94 = .ok (.iload_n 1, 1) := by decide +kernel
theorem dX8_measure_95 : decode cX8_measure 95 = .ok (.iaload, 1) := by decide +kernel
theorem dX8_measure_96 : decode cX8_measure 96 = .ok (.aload_n 0, 1) := by decide +kernel
theorem dX8_measure_97 : decode cX8_measure 97 = .ok (.getfield 22, 3) := by decide +kernel
theorem dX8_measure_100 : decode cX8_measure 100 = .ok (.iload_n 1, 1) := by decide +kernel
theorem dX8_measure_101 : decode cX8_measure 101 = .ok (.iaload, 1) := by decide +kernel
theorem dX8_measure_102 : decode cX8_measure 102 = .ok (.invokevirtual 53, 3) := by decide +kernel
theorem dX8_measure_105 : decode cX8_measure 105 = .ok (.iinc 1 1, 3) := by decide +kernel
theorem dX8_measure_108 : decode cX8_measure 108 = .ok (.goto (-70), 3) := by decide +kernel
theorem dX8_measure_111 : decode cX8_measure 111 = .ok (.iconst 0, 1) := by decide +kernel
theorem dX8_measure_112 : decode cX8_measure 112 = .ok (.istore_n 1, 1) := by decide +kernel
theorem dX8_measure_113 : decode cX8_measure 113 = .ok (.iload_n 1, 1) := by decide +kernel
theorem dX8_measure_114 : decode cX8_measure 114 = .ok (.bipush 6, 2) := by decide +kernel
theorem dX8_measure_116 : decode cX8_measure 116 = .ok (.if_icmp .ge 56, 3) := by decide +kernel
theorem dX8_measure_119 : decode cX8_measure 119 = .ok (.iconst 0, 1) := by decide +kernel
theorem dX8_measure_120 : decode cX8_measure 120 = .ok (.istore_n 2, 1) := by decide +kernel
theorem dX8_measure_121 : decode cX8_measure 121 = .ok (.iload_n 2, 1) := by decide +kernel
theorem dX8_measure_122 : decode cX8_measure 122 = .ok (.bipush 6, 2) := by decide +kernel
theorem dX8_measure_124 : decode cX8_measure 124 = .ok (.if_icmp .ge 42, 3) := by decide +kernel
theorem dX8_measure_127 : decode cX8_measure 127 = .ok (.iconst 0, 1) := by decide +kernel
theorem dX8_measure_128 : decode cX8_measure 128 = .ok (.istore_n 3, 1) := by decide +kernel
theorem dX8_measure_129 : decode cX8_measure 129 = .ok (.iload_n 3, 1) := by decide +kernel
theorem dX8_measure_130 : decode cX8_measure 130 = .ok (.bipush 6, 2) := by decide +kernel
theorem dX8_measure_132 : decode cX8_measure 132 = .ok (.if_icmp .ge 28, 3) := by decide +kernel
theorem dX8_measure_135 : decode cX8_measure 135 = .ok (.aload_n 0, 1) := by decide +kernel
theorem dX8_measure_136 : decode cX8_measure 136 = .ok (.iload_n 2, 1) := by decide +kernel
theorem dX8_measure_137 : decode cX8_measure 137 = .ok (.iload_n 3, 1) := by decide +kernel
theorem dX8_measure_138 : decode cX8_measure 138 = .ok (.aload_n 0, 1) := by decide +kernel
theorem dX8_measure_139 : decode cX8_measure 139 = .ok (.iload_n 2, 1) := by decide +kernel
theorem dX8_measure_140 : decode cX8_measure 140 = .ok (.iload_n 1, 1) := by decide +kernel
theorem dX8_measure_141 : decode cX8_measure 141 = .ok (.invokevirtual 57, 3) := by decide +kernel
theorem dX8_measure_144 : decode cX8_measure 144 = .ok (.aload_n 0, 1) := by decide +kernel
theorem dX8_measure_145 : decode cX8_measure 145 = .ok (.iload_n 1, 1) := by decide +kernel
theorem dX8_measure_146 : decode cX8_measure 146 = .ok (.iload_n 3, 1) := by decide +kernel
theorem dX8_measure_147 : decode cX8_measure 147 = .ok (.invokevirtual 57, 3) := by decide +kernel
theorem dX8_measure_150 : decode cX8_measure 150 = .ok (.iadd, 1) := by decide +kernel
theorem dX8_measure_151 : decode cX8_measure 151 = .ok (.invokevirtual 53, 3) := by decide +kernel
theorem dX8_measure_154 : decode cX8_measure 154 = .ok (.iinc 3 1, 3) := by decide +kernel
theorem dX8_measure_157 : decode cX8_measure 157 = .ok (.goto (-28), 3) := by decide +kernel
theorem dX8_measure_160 : decode cX8_measure 160 = .ok (.iinc 2 1, 3) := by decide +kernel
theorem dX8_measure_163 : decode cX8_measure 163 = .ok (.goto (-42), 3) := by decide +kernel
theorem dX8_measure_166 : decode cX8_measure 166 = .ok (.iinc 1 1, 3) := by decide +kernel
theorem dX8_measure_169 : decode cX8_measure 169 = .ok (.goto (-56), 3) := by decide +kernel
theorem dX8_measure_172 : decode cX8_measure 172 = .ok (.return_, 1) := by decide +kernel
theorem dX8_shorten_0 : decode cX8_shorten 0 = .ok (.iload_n 1, 1) := by decide +kernel
theorem dX8_shorten_1 : decode cX8_shorten 1 = .ok (.bipush 6, 2) := by decide +kernel
theorem dX8_shorten_3 : decode cX8_shorten 3 = .ok (.imul, 1) := by decide +kernel
theorem dX8_shorten_4 : decode cX8_shorten 4 = .ok (.iload_n 2, 1) := by decide +kernel
theorem dX8_shorten_5 : decode cX8_shorten 5 = .ok (.iadd, 1) := by decide +kernel
theorem dX8_shorten_6 : decode cX8_shorten 6 = .ok (.istore 4, 2) := by decide +kernel
theorem dX8_shorten_8 : decode cX8_shorten 8 = .ok (.iload_n 3, 1) := by decide +kernel
theorem dX8_shorten_9 : decode cX8_shorten 9 = .ok (.aload_n 0, 1) := by decide +kernel
theorem dX8_shorten_10 : decode cX8_shorten 10 = .ok (.getfield 25, 3) := by decide +kernel
theorem dX8_shorten_13 : decode cX8_shorten 13 = .ok (.iload 4, 2) := by decide +kernel
theorem dX8_shorten_15 : decode cX8_shorten 15 = .ok (.iaload, 1) := by decide +kernel
theorem dX8_shorten_16 : decode cX8_shorten 16 = .ok (.if_icmp .ge 11, 3) := by decide +kernel
theorem dX8_shorten_19 : decode cX8_shorten 19 = .ok (.aload_n 0, 1) := by decide +kernel
theorem dX8_shorten_20 : decode cX8_shorten 20 = .ok (.getfield 25, 3) := by decide +kernel
theorem dX8_shorten_23 : decode cX8_shorten 23 = .ok (.iload 4, 2) := by decide +kernel
theorem dX8_shorten_25 : decode cX8_shorten 25 = .ok (.iload_n 3, 1) := by decide +kernel
theorem dX8_shorten_26 : decode cX8_shorten 26 = .ok (.iastore, 1) := by decide +kernel
theorem dX8_shorten_27 : decode cX8_shorten 27 = .ok (.return_, 1) := by decide +kernel
theorem dX8_between_0 : decode cX8_between 0 = .ok (.aload_n 0, 1) := by decide +kernel
theorem dX8_between_1 : decode cX8_between 1 = .ok (.getfield 25, 3) := by decide +kernel
theorem dX8_between_4 : decode cX8_between 4 = .ok (.iload_n 1, 1) := by decide +kernel
theorem dX8_between_5 : decode cX8_between 5 = .ok (.bipush 6, 2) := by decide +kernel
theorem dX8_between_7 : decode cX8_between 7 = .ok (.imul, 1) := by decide +kernel
theorem dX8_between_8 : decode cX8_between 8 = .ok (.iload_n 2, 1) := by decide +kernel
theorem dX8_between_9 : decode cX8_between 9 = .ok (.iadd, 1) := by decide +kernel
theorem dX8_between_10 : decode cX8_between 10 = .ok (.iaload, 1) := by decide +kernel
theorem dX8_between_11 : decode cX8_between 11 = .ok (.ireturn, 1) := by decide +kernel
theorem dX8_costFrom_0 : decode cX8_costFrom 0 = .ok (.aload_n 0, 1) := by decide +kernel
theorem dX8_costFrom_1 : decode cX8_costFrom 1 = .ok (.getfield 12, 3) := by decide +kernel
theorem dX8_costFrom_4 : decode cX8_costFrom 4 = .ok (.getfield 47, 3) := by decide +kernel
theorem dX8_costFrom_7 : decode cX8_costFrom 7 = .ok (.iload_n 1, 1) := by decide +kernel
theorem dX8_costFrom_8 : decode cX8_costFrom 8 = .ok (.iaload, 1) := by decide +kernel
theorem dX8_costFrom_9 : decode cX8_costFrom 9 = .ok (.iload_n 2, 1) := by decide +kernel
theorem dX8_costFrom_10 : decode cX8_costFrom 10 = .ok (.if_icmp .ne 10, 3) := by decide +kernel
theorem dX8_costFrom_13 : decode cX8_costFrom 13 = .ok (.aload_n 0, 1) := by decide +kernel
theorem dX8_costFrom_14 : decode cX8_costFrom 14 = .ok (.getfield 18, 3) := by decide +kernel
theorem dX8_costFrom_17 : decode cX8_costFrom 17 = .ok (.iload_n 1, 1) := by decide +kernel
theorem dX8_costFrom_18 : decode cX8_costFrom 18 = .ok (.iaload, 1) := by decide +kernel
theorem dX8_costFrom_19 : decode cX8_costFrom 19 = .ok (.ireturn, 1) := by decide +kernel
theorem dX8_costFrom_20 : decode cX8_costFrom 20 = .ok (.aload_n 0, 1) := by decide +kernel
theorem dX8_costFrom_21 : decode cX8_costFrom 21 = .ok (.getfield 12, 3) := by decide +kernel
theorem dX8_costFrom_24 : decode cX8_costFrom 24 = .ok (.getfield 50, 3) := by decide +kernel
theorem dX8_costFrom_27 : decode cX8_costFrom 27 = .ok (.iload_n 1, 1) := by decide +kernel
theorem dX8_costFrom_28 : decode cX8_costFrom 28 = .ok (.iaload, 1) := by decide +kernel
theorem dX8_costFrom_29 : decode cX8_costFrom 29 = .ok (.iload_n 2, 1) := by decide +kernel
theorem dX8_costFrom_30 : decode cX8_costFrom 30 = .ok (.if_icmp .ne 12, 3) := by decide +kernel
theorem dX8_costFrom_33 : decode cX8_costFrom 33 = .ok (.aload_n 0, 1) := by decide +kernel
theorem dX8_costFrom_34 : decode cX8_costFrom 34 = .ok (.getfield 22, 3) := by decide +kernel
theorem dX8_costFrom_37 : decode cX8_costFrom 37 = .ok (.iload_n 1, 1) := by decide +kernel
theorem dX8_costFrom_38 : decode cX8_costFrom 38 = .ok (.iaload, 1) := by decide +kernel
theorem dX8_costFrom_39 : decode cX8_costFrom 39 = .ok (.goto 5, 3) := by decide +kernel
theorem dX8_costFrom_42 : decode cX8_costFrom 42 = .ok (.ldc 46, 2) := by decide +kernel
theorem dX8_costFrom_44 : decode cX8_costFrom 44 = .ok (.ireturn, 1) := by decide +kernel
theorem dX8_firstOf_0 : decode cX8_firstOf 0 = .ok (.aload_n 0, 1) := by decide +kernel
theorem dX8_firstOf_1 : decode cX8_firstOf 1 = .ok (.iload_n 1, 1) := by decide +kernel
theorem dX8_firstOf_2 : decode cX8_firstOf 2 = .ok (.iload_n 2, 1) := by decide +kernel
theorem dX8_firstOf_3 : decode cX8_firstOf 3 = .ok (.invokevirtual 57, 3) := by decide +kernel
theorem dX8_firstOf_6 : decode cX8_firstOf 6 = .ok (.istore_n 3, 1) := by decide +kernel
theorem dX8_firstOf_7 : decode cX8_firstOf 7 = .ok (.iload_n 1, 1) := by decide +kernel
theorem dX8_firstOf_8 : decode cX8_firstOf 8 = .ok (.iload_n 2, 1) := by decide +kernel
theorem dX8_firstOf_9 : decode cX8_firstOf 9 = .ok (.if_icmp .eq 9, 3) := by decide +kernel
theorem dX8_firstOf_12 : decode cX8_firstOf 12 = .ok (.iload_n 3, 1) := by decide +kernel
theorem dX8_firstOf_13 : decode cX8_firstOf 13 = .ok (.ldc 46, 2) := by decide +kernel
theorem dX8_firstOf_15 : decode cX8_firstOf 15 = .ok (.if_icmp .lt 6, 3) := by decide +kernel
theorem dX8_firstOf_18 : decode cX8_firstOf 18 = .ok (.bipush (-9), 2) := by decide +kernel
theorem dX8_firstOf_20 : decode cX8_firstOf 20 = .ok (.ireturn, 1) := by decide +kernel
theorem dX8_firstOf_21 : decode cX8_firstOf 21 = .ok (.iconst 0, 1) := by decide +kernel
theorem dX8_firstOf_22 : decode cX8_firstOf 22 = .ok (.istore 4, 2) := by decide +kernel
theorem dX8_firstOf_24 : decode cX8_firstOf 24 = .ok (.iload 4, 2) := by decide +kernel
theorem dX8_firstOf_26 : decode cX8_firstOf 26 = .ok (.aload_n 0, 1) := by decide +kernel
theorem dX8_firstOf_27 : decode cX8_firstOf 27 = .ok (.getfield 12, 3) := by decide +kernel
theorem dX8_firstOf_30 : decode cX8_firstOf 30 = .ok (.getfield 32, 3) := by decide +kernel
theorem dX8_firstOf_33 : decode cX8_firstOf 33 = .ok (.if_icmp .ge 50, 3) := by decide +kernel
theorem dX8_firstOf_36 : decode cX8_firstOf 36 = .ok (.aload_n 0, 1) := by decide +kernel
theorem dX8_firstOf_37 : decode cX8_firstOf 37 = .ok (.iload 4, 2) := by decide +kernel
theorem dX8_firstOf_39 : decode cX8_firstOf 39 = .ok (.iload_n 1, 1) := by decide +kernel
theorem dX8_firstOf_40 : decode cX8_firstOf 40 = .ok (.invokevirtual 61, 3) := by decide +kernel
theorem dX8_firstOf_43 : decode cX8_firstOf 43 = .ok (.istore 5, 2) := by decide +kernel
theorem dX8_firstOf_45 : decode cX8_firstOf 45 = .ok (.iload 5, 2) := by decide +kernel
theorem dX8_firstOf_47 : decode cX8_firstOf 47 = .ok (.ldc 46, 2) := by decide +kernel
theorem dX8_firstOf_49 : decode cX8_firstOf 49 = .ok (.if_icmp .ge 28, 3) := by decide +kernel
theorem dX8_firstOf_52 : decode cX8_firstOf 52 = .ok (.iload 5, 2) := by decide +kernel
theorem dX8_firstOf_54 : decode cX8_firstOf 54 = .ok (.aload_n 0, 1) := by decide +kernel
theorem dX8_firstOf_55 : decode cX8_firstOf 55 = .ok (.aload_n 0, 1) := by decide +kernel
theorem dX8_firstOf_56 : decode cX8_firstOf 56 = .ok (.getfield 12, 3) := by decide +kernel
theorem dX8_firstOf_59 : decode cX8_firstOf 59 = .ok (.iload 4, 2) := by decide +kernel
theorem dX8_firstOf_61 : decode cX8_firstOf 61 = .ok (.iload_n 1, 1) := by decide +kernel
theorem dX8_firstOf_62 : decode cX8_firstOf 62 = .ok (.invokevirtual 64, 3) := by decide +kernel
theorem dX8_firstOf_65 : decode cX8_firstOf 65 = .ok (.iload_n 2, 1) := by decide +kernel
theorem dX8_firstOf_66 : decode cX8_firstOf 66 = .ok (.invokevirtual 57, 3) := by decide +kernel
theorem dX8_firstOf_69 : decode cX8_firstOf 69 = .ok (.iadd, 1) := by decide +kernel
theorem dX8_firstOf_70 : decode cX8_firstOf 70 = .ok (.iload_n 3, 1) := by decide +kernel
theorem dX8_firstOf_71 : decode cX8_firstOf 71 = .ok (.if_icmp .ne 6, 3) := by decide +kernel
theorem dX8_firstOf_74 : decode cX8_firstOf 74 = .ok (.iload 4, 2) := by decide +kernel
theorem dX8_firstOf_76 : decode cX8_firstOf 76 = .ok (.ireturn, 1) := by decide +kernel
theorem dX8_firstOf_77 : decode cX8_firstOf 77 = .ok (.iinc 4 1, 3) := by decide +kernel
theorem dX8_firstOf_80 : decode cX8_firstOf 80 = .ok (.goto (-56), 3) := by decide +kernel
theorem dX8_firstOf_83 : decode cX8_firstOf 83 = .ok (.bipush (-9), 2) := by decide +kernel
theorem dX8_firstOf_85 : decode cX8_firstOf 85 = .ok (.ireturn, 1) := by decide +kernel
theorem dX0_init_0 : decode cX0_init 0 = .ok (.aload_n 0, 1) := by decide +kernel
theorem dX0_init_1 : decode cX0_init 1 = .ok (.invokespecial 3, 3) := by decide +kernel
theorem dX0_init_4 : decode cX0_init 4 = .ok (.aload_n 0, 1) := by decide +kernel
theorem dX0_init_5 : decode cX0_init 5 = .ok (.iconst 3, 1) := by decide +kernel
theorem dX0_init_6 : decode cX0_init 6 = .ok (.newarray .int, 2) := by decide +kernel
theorem dX0_init_8 : decode cX0_init 8 = .ok (.putfield 9, 3) := by decide +kernel
theorem dX0_init_11 : decode cX0_init 11 = .ok (.aload_n 0, 1) := by decide +kernel
theorem dX0_init_12 : decode cX0_init 12 = .ok (.bipush 8, 2) := by decide +kernel
theorem dX0_init_14 : decode cX0_init 14 = .ok (.newarray .int, 2) := by decide +kernel
theorem dX0_init_16 : decode cX0_init 16 = .ok (.putfield 15, 3) := by decide +kernel
theorem dX0_init_19 : decode cX0_init 19 = .ok (.aload_n 0, 1) := by decide +kernel
theorem dX0_init_20 : decode cX0_init 20 = .ok (.iconst 1, 1) := by decide +kernel
theorem dX0_init_21 : decode cX0_init 21 = .ok (.putfield 18, 3) := by decide +kernel
theorem dX0_init_24 : decode cX0_init 24 = .ok (.aload_n 0, 1) := by decide +kernel
theorem dX0_init_25 : decode cX0_init 25 = .ok (.bipush 8, 2) := by decide +kernel
theorem dX0_init_27 : decode cX0_init 27 = .ok (.newarray .int, 2) := by decide +kernel
theorem dX0_init_29 : decode cX0_init 29 = .ok (.putfield 22, 3) := by decide +kernel
theorem dX0_init_32 : decode cX0_init 32 = .ok (.aload_n 0, 1) := by decide +kernel
theorem dX0_init_33 : decode cX0_init 33 = .ok (.iconst 0, 1) := by decide +kernel
theorem dX0_init_34 : decode cX0_init 34 = .ok (.putfield 25, 3) := by decide +kernel
theorem dX0_init_37 : decode cX0_init 37 = .ok (.aload_n 0, 1) := by decide +kernel
theorem dX0_init_38 : decode cX0_init 38 = .ok (.iconst 0, 1) := by decide +kernel
theorem dX0_init_39 : decode cX0_init 39 = .ok (.putfield 29, 3) := by decide +kernel
theorem dX0_init_42 : decode cX0_init 42 = .ok (.aload_n 0, 1) := by decide +kernel
theorem dX0_init_43 : decode cX0_init 43 = .ok (.iconst 0, 1) := by decide +kernel
theorem dX0_init_44 : decode cX0_init 44 = .ok (.putfield 32, 3) := by decide +kernel
theorem dX0_init_47 : decode cX0_init 47 = .ok (.aload_n 0, 1) := by decide +kernel
theorem dX0_init_48 : decode cX0_init 48 = .ok (.iconst 0, 1) := by decide +kernel
theorem dX0_init_49 : decode cX0_init 49 = .ok (.putfield 35, 3) := by decide +kernel
theorem dX0_init_52 : decode cX0_init 52 = .ok (.return_, 1) := by decide +kernel
theorem dX0_seek_0 : decode cX0_seek 0 = .ok (.aload_n 0, 1) := by decide +kernel
theorem dX0_seek_1 : decode cX0_seek 1 = .ok (.iload_n 2, 1) := by decide +kernel
theorem dX0_seek_2 : decode cX0_seek 2 = .ok (.iconst 3, 1) := by decide +kernel
theorem dX0_seek_3 : decode cX0_seek 3 = .ok (.if_icmp .le 7, 3) := by decide +kernel
theorem dX0_seek_6 : decode cX0_seek 6 = .ok (.iconst 3, 1) := by decide +kernel
theorem dX0_seek_7 : decode cX0_seek 7 = .ok (.goto 4, 3) := by decide +kernel
theorem dX0_seek_10 : decode cX0_seek 10 = .ok (.iload_n 2, 1) := by decide +kernel
theorem dX0_seek_11 : decode cX0_seek 11 = .ok (.putfield 18, 3) := by decide +kernel
theorem dX0_seek_14 : decode cX0_seek 14 = .ok (.aload_n 0, 1) := by decide +kernel
theorem dX0_seek_15 : decode cX0_seek 15 = .ok (.iconst 0, 1) := by decide +kernel
theorem dX0_seek_16 : decode cX0_seek 16 = .ok (.putfield 25, 3) := by decide +kernel
theorem dX0_seek_19 : decode cX0_seek 19 = .ok (.iconst 0, 1) := by decide +kernel
theorem dX0_seek_20 : decode cX0_seek 20 = .ok (.istore_n 3, 1) := by decide +kernel
theorem dX0_seek_21 : decode cX0_seek 21 = .ok (.iload_n 3, 1) := by decide +kernel
theorem dX0_seek_22 : decode cX0_seek 22 = .ok (.iconst 3, 1) := by decide +kernel
theorem dX0_seek_23 : decode cX0_seek 23 = .ok (.if_icmp .ge 16, 3) := by decide +kernel
theorem dX0_seek_26 : decode cX0_seek 26 = .ok (.aload_n 0, 1) := by decide +kernel
theorem dX0_seek_27 : decode cX0_seek 27 = .ok (.getfield 9, 3) := by decide +kernel
theorem dX0_seek_30 : decode cX0_seek 30 = .ok (.iload_n 3, 1) := by decide +kernel
theorem dX0_seek_31 : decode cX0_seek 31 = .ok (.iconst 0, 1) := by decide +kernel
theorem dX0_seek_32 : decode cX0_seek 32 = .ok (.iastore, 1) := by decide +kernel
theorem dX0_seek_33 : decode cX0_seek 33 = .ok (.iinc 3 1, 3) := by decide +kernel
theorem dX0_seek_36 : decode cX0_seek 36 = .ok (.goto (-15), 3) := by decide +kernel
theorem dX0_seek_39 : decode cX0_seek 39 = .ok (.aload_n 0, 1) := by decide +kernel
theorem dX0_seek_40 : decode cX0_seek 40 = .ok (.aload_n 1, 1) := by decide +kernel
theorem dX0_seek_41 : decode cX0_seek 41 = .ok (.iconst 0, 1) := by decide +kernel
theorem dX0_seek_42 : decode cX0_seek 42 = .ok (.invokevirtual 38, 3) := by decide +kernel
theorem dX0_seek_45 : decode cX0_seek 45 = .ok (.return_, 1) := by decide +kernel
theorem dX0_give_0 : decode cX0_give 0 = .ok (.aload_n 0, 1) := by decide +kernel
theorem dX0_give_1 : decode cX0_give 1 = .ok (.aload_n 1, 1) := by decide +kernel
theorem dX0_give_2 : decode cX0_give 2 = .ok (.invokevirtual 42, 3) := by decide +kernel
theorem dX0_give_5 : decode cX0_give 5 = .ok (.ifCond .ne 4, 3) := by decide +kernel
theorem dX0_give_8 : decode cX0_give 8 = .ok (.return_, 1) := by decide +kernel
theorem dX0_give_9 : decode cX0_give 9 = .ok (.iload_n 2, 1) := by decide +kernel
theorem dX0_give_10 : decode cX0_give 10 = .ok (.bipush 8, 2) := by decide +kernel
theorem dX0_give_12 : decode cX0_give 12 = .ok (.if_icmp .lt 9, 3) := by decide +kernel
theorem dX0_give_15 : decode cX0_give 15 = .ok (.aload_n 0, 1) := by decide +kernel
theorem dX0_give_16 : decode cX0_give 16 = .ok (.aload_n 1, 1) := by decide +kernel
theorem dX0_give_17 : decode cX0_give 17 = .ok (.invokevirtual 46, 3) := by decide +kernel
theorem dX0_give_20 : decode cX0_give 20 = .ok (.return_, 1) := by decide +kernel
theorem dX0_give_21 : decode cX0_give 21 = .ok (.aload_n 1, 1) := by decide +kernel
theorem dX0_give_22 : decode cX0_give 22 = .ok (.getfield 50, 3) := by decide +kernel
theorem dX0_give_25 : decode cX0_give 25 = .ok (.iload_n 2, 1) := by decide +kernel
theorem dX0_give_26 : decode cX0_give 26 = .ok (.ishr, 1) := by decide +kernel
theorem dX0_give_27 : decode cX0_give 27 = .ok (.iconst 1, 1) := by decide +kernel
theorem dX0_give_28 : decode cX0_give 28 = .ok (.iand, 1) := by decide +kernel
theorem dX0_give_29 : decode cX0_give 29 = .ok (.ifCond .ne 12, 3) := by decide +kernel
theorem dX0_give_32 : decode cX0_give 32 = .ok (.aload_n 0, 1) := by decide +kernel
theorem dX0_give_33 : decode cX0_give 33 = .ok (.aload_n 1, 1) := by decide +kernel
theorem dX0_give_34 : decode cX0_give 34 = .ok (.iload_n 2, 1) := by decide +kernel
theorem dX0_give_35 : decode cX0_give 35 = .ok (.iconst 1, 1) := by decide +kernel
theorem dX0_give_36 : decode cX0_give 36 = .ok (.iadd, 1) := by decide +kernel
theorem dX0_give_37 : decode cX0_give 37 = .ok (.invokevirtual 38, 3) := by decide +kernel
theorem dX0_give_40 : decode cX0_give 40 = .ok (.return_, 1) := by decide +kernel
theorem dX0_give_41 : decode cX0_give 41 = .ok (.iconst 0, 1) := by decide +kernel
theorem dX0_give_42 : decode cX0_give 42 = .ok (.istore_n 3, 1) := by decide +kernel
theorem dX0_give_43 : decode cX0_give 43 = .ok (.iload_n 3, 1) := by decide +kernel
theorem dX0_give_44 : decode cX0_give 44 = .ok (.aload_n 0, 1) := by decide +kernel
theorem dX0_give_45 : decode cX0_give 45 = .ok (.getfield 18, 3) := by decide +kernel
theorem dX0_give_48 : decode cX0_give 48 = .ok (.if_icmp .ge 50, 3) := by decide +kernel
theorem dX0_give_51 : decode cX0_give 51 = .ok (.aload_n 0, 1) := by decide +kernel
theorem dX0_give_52 : decode cX0_give 52 = .ok (.getfield 15, 3) := by decide +kernel
theorem dX0_give_55 : decode cX0_give 55 = .ok (.iload_n 2, 1) := by decide +kernel
theorem dX0_give_56 : decode cX0_give 56 = .ok (.iload_n 3, 1) := by decide +kernel
theorem dX0_give_57 : decode cX0_give 57 = .ok (.iastore, 1) := by decide +kernel
theorem dX0_give_58 : decode cX0_give 58 = .ok (.aload_n 0, 1) := by decide +kernel
theorem dX0_give_59 : decode cX0_give 59 = .ok (.getfield 9, 3) := by decide +kernel
theorem dX0_give_62 : decode cX0_give 62 = .ok (.iload_n 3, 1) := by decide +kernel
theorem dX0_give_63 : decode cX0_give 63 = .ok (.dup2, 1) := by decide +kernel
theorem dX0_give_64 : decode cX0_give 64 = .ok (.iaload, 1) := by decide +kernel
theorem dX0_give_65 : decode cX0_give 65 = .ok (.iconst 1, 1) := by decide +kernel
theorem dX0_give_66 : decode cX0_give 66 = .ok (.iload_n 2, 1) := by decide +kernel
theorem dX0_give_67 : decode cX0_give 67 = .ok (.ishl, 1) := by decide +kernel
theorem dX0_give_68 : decode cX0_give 68 = .ok (.ior, 1) := by decide +kernel
theorem dX0_give_69 : decode cX0_give 69 = .ok (.iastore, 1) := by decide +kernel
theorem dX0_give_70 : decode cX0_give 70 = .ok (.aload_n 0, 1) := by decide +kernel
theorem dX0_give_71 : decode cX0_give 71 = .ok (.aload_n 1, 1) := by decide +kernel
theorem dX0_give_72 : decode cX0_give 72 = .ok (.iload_n 2, 1) := by decide +kernel
theorem dX0_give_73 : decode cX0_give 73 = .ok (.iconst 1, 1) := by decide +kernel
theorem dX0_give_74 : decode cX0_give 74 = .ok (.iadd, 1) := by decide +kernel
theorem dX0_give_75 : decode cX0_give 75 = .ok (.invokevirtual 38, 3) := by decide +kernel
theorem dX0_give_78 : decode cX0_give 78 = .ok (.aload_n 0, 1) := by decide +kernel
theorem dX0_give_79 : decode cX0_give 79 = .ok (.getfield 9, 3) := by decide +kernel
theorem dX0_give_82 : decode cX0_give 82 = .ok (.iload_n 3, 1) := by decide +kernel
theorem dX0_give_83 : decode cX0_give 83 = .ok (.dup2, 1) := by decide +kernel
theorem dX0_give_84 : decode cX0_give 84 = .ok (.iaload, 1) := by decide +kernel
theorem dX0_give_85 : decode cX0_give 85 = .ok (.iconst 1, 1) := by decide +kernel
theorem dX0_give_86 : decode cX0_give 86 = .ok (.iload_n 2, 1) := by decide +kernel
theorem dX0_give_87 : decode cX0_give 87 = .ok (.ishl, 1) := by decide +kernel
theorem dX0_give_88 : decode cX0_give 88 = .ok (.iconst (-1), 1) := by decide +kernel
theorem dX0_give_89 : decode cX0_give 89 = .ok (.ixor, 1) := by decide +kernel
theorem dX0_give_90 : decode cX0_give 90 = .ok (.iand, 1) := by decide +kernel
theorem dX0_give_91 : decode cX0_give 91 = .ok (.iastore, 1) := by decide +kernel
theorem dX0_give_92 : decode cX0_give 92 = .ok (.iinc 3 1, 3) := by decide +kernel
theorem dX0_give_95 : decode cX0_give 95 = .ok (.goto (-52), 3) := by decide +kernel
theorem dX0_give_98 : decode cX0_give 98 = .ok (.return_, 1) := by decide +kernel
theorem dX0_isBetter_0 : decode cX0_isBetter 0 = .ok (.aload_n 0, 1) := by decide +kernel
theorem dX0_isBetter_1 : decode cX0_isBetter 1 = .ok (.aload_n 1, 1) := by decide +kernel
theorem dX0_isBetter_2 : decode cX0_isBetter 2 = .ok (.invokevirtual 55, 3) := by decide +kernel
theorem dX0_isBetter_5 : decode cX0_isBetter 5 = .ok (.istore_n 2, 1) := by decide +kernel
theorem dX0_isBetter_6 : decode cX0_isBetter 6 = .ok (.iload_n 2, 1) := by decide +kernel
theorem dX0_isBetter_7 : decode cX0_isBetter 7 = .ok (.ldc 59, 2) := by decide +kernel
theorem dX0_isBetter_9 : decode cX0_isBetter 9 = .ok (.if_icmp .lt 5, 3) := by decide +kernel
theorem dX0_isBetter_12 : decode cX0_isBetter 12 = .ok (.iconst 0, 1) := by decide +kernel
theorem dX0_isBetter_13 : decode cX0_isBetter 13 = .ok (.ireturn, 1) := by decide +kernel
theorem dX0_isBetter_14 : decode cX0_isBetter 14 = .ok (.aload_n 0, 1) := by decide +kernel
theorem dX0_isBetter_15 : decode cX0_isBetter 15 = .ok (.getfield 25, 3) := by decide +kernel
theorem dX0_isBetter_18 : decode cX0_isBetter 18 = .ok (.ifCond .eq 31, 3) := by decide +kernel
theorem dX0_isBetter_21 : decode cX0_isBetter 21 = .ok (.iload_n 2, 1) := by decide +kernel
theorem dX0_isBetter_22 : decode cX0_isBetter 22 = .ok (.aload_n 0, 1) := by decide +kernel
theorem dX0_isBetter_23 : decode cX0_isBetter 23 = .ok (.getfield 29, 3) := by decide +kernel
theorem dX0_isBetter_26 : decode cX0_isBetter 26 = .ok (.if_icmp .lt 23, 3) := by decide +kernel
theorem dX0_isBetter_29 : decode cX0_isBetter 29 = .ok (.iload_n 2, 1) := by decide +kernel
theorem dX0_isBetter_30 : decode cX0_isBetter 30 = .ok (.aload_n 0, 1) := by decide +kernel
theorem dX0_isBetter_31 : decode cX0_isBetter 31 = .ok (.getfield 29, 3) := by decide +kernel
theorem dX0_isBetter_34 : decode cX0_isBetter 34 = .ok (.if_icmp .ne 19, 3) := by decide +kernel
theorem dX0_isBetter_37 : decode cX0_isBetter 37 = .ok (.aload_n 0, 1) := by decide +kernel
theorem dX0_isBetter_38 : decode cX0_isBetter 38 = .ok (.aload_n 1, 1) := by decide +kernel
theorem dX0_isBetter_39 : decode cX0_isBetter 39 = .ok (.invokevirtual 60, 3) := by decide +kernel
theorem dX0_isBetter_42 : decode cX0_isBetter 42 = .ok (.aload_n 0, 1) := by decide +kernel
theorem dX0_isBetter_43 : decode cX0_isBetter 43 = .ok (.getfield 32, 3) := by decide +kernel
theorem dX0_isBetter_46 : decode cX0_isBetter 46 = .ok (.if_icmp .ge 7, 3) := by decide +kernel
theorem dX0_isBetter_49 : decode cX0_isBetter 49 = .ok (.iconst 1, 1) := by decide +kernel
theorem dX0_isBetter_50 : decode cX0_isBetter 50 = .ok (.goto 4, 3) := by decide +kernel
theorem dX0_isBetter_53 : decode cX0_isBetter 53 = .ok (.iconst 0, 1) := by decide +kernel
theorem dX0_isBetter_54 : decode cX0_isBetter 54 = .ok (.ireturn, 1) := by decide +kernel
theorem dX0_mostOf_0 : decode cX0_mostOf 0 = .ok (.iconst 0, 1) := by decide +kernel
theorem dX0_mostOf_1 : decode cX0_mostOf 1 = .ok (.istore_n 2, 1) := by decide +kernel
theorem dX0_mostOf_2 : decode cX0_mostOf 2 = .ok (.iconst 0, 1) := by decide +kernel
theorem dX0_mostOf_3 : decode cX0_mostOf 3 = .ok (.istore_n 3, 1) := by decide +kernel
theorem dX0_mostOf_4 : decode cX0_mostOf 4 = .ok (.iload_n 3, 1) := by decide +kernel
theorem dX0_mostOf_5 : decode cX0_mostOf 5 = .ok (.aload_n 0, 1) := by decide +kernel
theorem dX0_mostOf_6 : decode cX0_mostOf 6 = .ok (.getfield 18, 3) := by decide +kernel
theorem dX0_mostOf_9 : decode cX0_mostOf 9 = .ok (.if_icmp .ge 24, 3) := by decide +kernel
theorem dX0_mostOf_12 : decode cX0_mostOf 12 = .ok (.iload_n 2, 1) := by decide +kernel
theorem dX0_mostOf_13 : decode cX0_mostOf 13 = .ok (.aload_n 1, 1) := by decide +kernel
theorem dX0_mostOf_14 : decode cX0_mostOf 14 = .ok (.aload_n 0, 1) := by decide +kernel
theorem dX0_mostOf_15 : decode cX0_mostOf 15 = .ok (.getfield 9, 3) := by decide +kernel
theorem dX0_mostOf_18 : decode cX0_mostOf 18 = .ok (.iload_n 3, 1) := by decide +kernel
theorem dX0_mostOf_19 : decode cX0_mostOf 19 = .ok (.iaload, 1) := by decide +kernel
theorem dX0_mostOf_20 : decode cX0_mostOf 20 = .ok (.invokevirtual 63, 3) := by decide +kernel
theorem dX0_mostOf_23 : decode cX0_mostOf 23 = .ok (.invokestatic 67, 3) := by decide +kernel
theorem dX0_mostOf_26 : decode cX0_mostOf 26 = .ok (.istore_n 2, 1) := by decide +kernel
theorem dX0_mostOf_27 : decode cX0_mostOf 27 = .ok (.iinc 3 1, 3) := by decide +kernel
theorem dX0_mostOf_30 : decode cX0_mostOf 30 = .ok (.goto (-26), 3) := by decide +kernel
theorem dX0_mostOf_33 : decode cX0_mostOf 33 = .ok (.iload_n 2, 1) := by decide +kernel
theorem dX0_mostOf_34 : decode cX0_mostOf 34 = .ok (.ireturn, 1) := by decide +kernel
theorem dX0_sumOf_0 : decode cX0_sumOf 0 = .ok (.iconst 0, 1) := by decide +kernel
theorem dX0_sumOf_1 : decode cX0_sumOf 1 = .ok (.istore_n 2, 1) := by decide +kernel
theorem dX0_sumOf_2 : decode cX0_sumOf 2 = .ok (.iconst 0, 1) := by decide +kernel
theorem dX0_sumOf_3 : decode cX0_sumOf 3 = .ok (.istore_n 3, 1) := by decide +kernel
theorem dX0_sumOf_4 : decode cX0_sumOf 4 = .ok (.iload_n 3, 1) := by decide +kernel
theorem dX0_sumOf_5 : decode cX0_sumOf 5 = .ok (.aload_n 0, 1) := by decide +kernel
theorem dX0_sumOf_6 : decode cX0_sumOf 6 = .ok (.getfield 18, 3) := by decide +kernel
theorem dX0_sumOf_9 : decode cX0_sumOf 9 = .ok (.if_icmp .ge 22, 3) := by decide +kernel
theorem dX0_sumOf_12 : decode cX0_sumOf 12 = .ok (.iload_n 2, 1) := by decide +kernel
theorem dX0_sumOf_13 : decode cX0_sumOf 13 = .ok (.aload_n 1, 1) := by decide +kernel
theorem dX0_sumOf_14 : decode cX0_sumOf 14 = .ok (.aload_n 0, 1) := by decide +kernel
theorem dX0_sumOf_15 : decode cX0_sumOf 15 = .ok (.getfield 9, 3) := by decide +kernel
theorem dX0_sumOf_18 : decode cX0_sumOf 18 = .ok (.iload_n 3, 1) := by decide +kernel
theorem dX0_sumOf_19 : decode cX0_sumOf 19 = .ok (.iaload, 1) := by decide +kernel
theorem dX0_sumOf_20 : decode cX0_sumOf 20 = .ok (.invokevirtual 63, 3) := by decide +kernel
theorem dX0_sumOf_23 : decode cX0_sumOf 23 = .ok (.iadd, 1) := by decide +kernel
theorem dX0_sumOf_24 : decode cX0_sumOf 24 = .ok (.istore_n 2, 1) := by decide +kernel
theorem dX0_sumOf_25 : decode cX0_sumOf 25 = .ok (.iinc 3 1, 3) := by decide +kernel
theorem dX0_sumOf_28 : decode cX0_sumOf 28 = .ok (.goto (-24), 3) := by decide +kernel
theorem dX0_sumOf_31 : decode cX0_sumOf 31 = .ok (.iload_n 2, 1) := by decide +kernel
theorem dX0_sumOf_32 : decode cX0_sumOf 32 = .ok (.ireturn, 1) := by decide +kernel
theorem dX0_keep_0 : decode cX0_keep 0 = .ok (.aload_n 0, 1) := by decide +kernel
theorem dX0_keep_1 : decode cX0_keep 1 = .ok (.iconst 1, 1) := by decide +kernel
theorem dX0_keep_2 : decode cX0_keep 2 = .ok (.putfield 25, 3) := by decide +kernel
theorem dX0_keep_5 : decode cX0_keep 5 = .ok (.aload_n 0, 1) := by decide +kernel
theorem dX0_keep_6 : decode cX0_keep 6 = .ok (.aload_n 0, 1) := by decide +kernel
theorem dX0_keep_7 : decode cX0_keep 7 = .ok (.aload_n 1, 1) := by decide +kernel
theorem dX0_keep_8 : decode cX0_keep 8 = .ok (.invokevirtual 55, 3) := by decide +kernel
theorem dX0_keep_11 : decode cX0_keep 11 = .ok (.putfield 29, 3) := by decide +kernel
theorem dX0_keep_14 : decode cX0_keep 14 = .ok (.aload_n 0, 1) := by decide +kernel
theorem dX0_keep_15 : decode cX0_keep 15 = .ok (.aload_n 0, 1) := by decide +kernel
theorem dX0_keep_16 : decode cX0_keep 16 = .ok (.aload_n 1, 1) := by decide +kernel
theorem dX0_keep_17 : decode cX0_keep 17 = .ok (.invokevirtual 60, 3) := by decide +kernel
theorem dX0_keep_20 : decode cX0_keep 20 = .ok (.putfield 32, 3) := by decide +kernel
theorem dX0_keep_23 : decode cX0_keep 23 = .ok (.aload_n 0, 1) := by decide +kernel
theorem dX0_keep_24 : decode cX0_keep 24 = .ok (.getfield 15, 3) := by decide +kernel
theorem dX0_keep_27 : decode cX0_keep 27 = .ok (.iconst 0, 1) := by decide +kernel
theorem dX0_keep_28 : decode cX0_keep 28 = .ok (.aload_n 0, 1) := by decide +kernel
theorem dX0_keep_29 : decode cX0_keep 29 = .ok (.getfield 22, 3) := by decide +kernel
theorem dX0_keep_32 : decode cX0_keep 32 = .ok (.iconst 0, 1) := by decide +kernel
theorem dX0_keep_33 : decode cX0_keep 33 = .ok (.bipush 8, 2) := by decide +kernel
theorem dX0_keep_35 : decode cX0_keep 35 = .ok (.invokestatic 73, 3) := by decide +kernel
theorem dX0_keep_38 : decode cX0_keep 38 = .ok (.aload_n 0, 1) := by decide +kernel
theorem dX0_keep_39 : decode cX0_keep 39 = .ok (.iconst 0, 1) := by decide +kernel
theorem dX0_keep_40 : decode cX0_keep 40 = .ok (.putfield 35, 3) := by decide +kernel
theorem dX0_keep_43 : decode cX0_keep 43 = .ok (.iconst 0, 1) := by decide +kernel
theorem dX0_keep_44 : decode cX0_keep 44 = .ok (.istore_n 2, 1) := by decide +kernel
theorem dX0_keep_45 : decode cX0_keep 45 = .ok (.iload_n 2, 1) := by decide +kernel
theorem dX0_keep_46 : decode cX0_keep 46 = .ok (.aload_n 0, 1) := by decide +kernel
theorem dX0_keep_47 : decode cX0_keep 47 = .ok (.getfield 18, 3) := by decide +kernel
theorem dX0_keep_50 : decode cX0_keep 50 = .ok (.if_icmp .ge 32, 3) := by decide +kernel
theorem dX0_keep_53 : decode cX0_keep 53 = .ok (.aload_n 0, 1) := by decide +kernel
theorem dX0_keep_54 : decode cX0_keep 54 = .ok (.dup, 1) := by decide +kernel
theorem dX0_keep_55 : decode cX0_keep 55 = .ok (.getfield 35, 3) := by decide +kernel
theorem dX0_keep_58 : decode cX0_keep 58 = .ok (.aload_n 0, 1) := by decide +kernel
theorem dX0_keep_59 : decode cX0_keep 59 = .ok (.getfield 9, 3) := by decide +kernel
theorem dX0_keep_62 : decode cX0_keep 62 = .ok (.iload_n 2, 1) := by decide +kernel
theorem dX0_keep_63 : decode cX0_keep 63 = .ok (.iaload, 1) := by decide +kernel
theorem dX0_keep_64 : decode cX0_keep 64 = .ok (.ifCond .eq 7, 3) := by decide +kernel
theorem dX0_keep_67 : decode cX0_keep 67 = .ok (.iconst 1, 1) := by decide +kernel
theorem dX0_keep_68 : decode cX0_keep 68 = .ok (.goto 4, 3) := by decide +kernel
theorem dX0_keep_71 : decode cX0_keep 71 = .ok (.iconst 0, 1) := by decide +kernel
theorem dX0_keep_72 : decode cX0_keep 72 = .ok (.iadd, 1) := by decide +kernel
theorem dX0_keep_73 : decode cX0_keep 73 = .ok (.putfield 35, 3) := by decide +kernel
theorem dX0_keep_76 : decode cX0_keep 76 = .ok (.iinc 2 1, 3) := by decide +kernel
theorem dX0_keep_79 : decode cX0_keep 79 = .ok (.goto (-34), 3) := by decide +kernel
theorem dX0_keep_82 : decode cX0_keep 82 = .ok (.return_, 1) := by decide +kernel
theorem dX1_init_0 : decode cX1_init 0 = .ok (.aload_n 0, 1) := by decide +kernel
theorem dX1_init_1 : decode cX1_init 1 = .ok (.invokespecial 3, 3) := by decide +kernel
theorem dX1_init_4 : decode cX1_init 4 = .ok (.aload_n 0, 1) := by decide +kernel
theorem dX1_init_5 : decode cX1_init 5 = .ok (.bipush 8, 2) := by decide +kernel
theorem dX1_init_7 : decode cX1_init 7 = .ok (.newarray .int, 2) := by decide +kernel
theorem dX1_init_9 : decode cX1_init 9 = .ok (.putfield 9, 3) := by decide +kernel
theorem dX1_init_12 : decode cX1_init 12 = .ok (.aload_n 0, 1) := by decide +kernel
theorem dX1_init_13 : decode cX1_init 13 = .ok (.bipush 8, 2) := by decide +kernel
theorem dX1_init_15 : decode cX1_init 15 = .ok (.newarray .int, 2) := by decide +kernel
theorem dX1_init_17 : decode cX1_init 17 = .ok (.putfield 15, 3) := by decide +kernel
theorem dX1_init_20 : decode cX1_init 20 = .ok (.aload_n 0, 1) := by decide +kernel
theorem dX1_init_21 : decode cX1_init 21 = .ok (.sipush 256, 3) := by decide +kernel
theorem dX1_init_24 : decode cX1_init 24 = .ok (.newarray .int, 2) := by decide +kernel
theorem dX1_init_26 : decode cX1_init 26 = .ok (.putfield 18, 3) := by decide +kernel
theorem dX1_init_29 : decode cX1_init 29 = .ok (.return_, 1) := by decide +kernel
theorem dX1_seek_0 : decode cX1_seek 0 = .ok (.aload_n 1, 1) := by decide +kernel
theorem dX1_seek_1 : decode cX1_seek 1 = .ok (.getfield 21, 3) := by decide +kernel
theorem dX1_seek_4 : decode cX1_seek 4 = .ok (.aload_n 0, 1) := by decide +kernel
theorem dX1_seek_5 : decode cX1_seek 5 = .ok (.getfield 9, 3) := by decide +kernel
theorem dX1_seek_8 : decode cX1_seek 8 = .ok (.iconst (-1), 1) := by decide +kernel
theorem dX1_seek_9 : decode cX1_seek 9 = .ok (.invokestatic 27, 3) := by decide +kernel
theorem dX1_seek_12 : decode cX1_seek 12 = .ok (.istore_n 2, 1) := by decide +kernel
theorem dX1_seek_13 : decode cX1_seek 13 = .ok (.aload_n 1, 1) := by decide +kernel
theorem dX1_seek_14 : decode cX1_seek 14 = .ok (.getfield 21, 3) := by decide +kernel
theorem dX1_seek_17 : decode cX1_seek 17 = .ok (.aload_n 0, 1) := by decide +kernel
theorem dX1_seek_18 : decode cX1_seek 18 = .ok (.getfield 15, 3) := by decide +kernel
theorem dX1_seek_21 : decode cX1_seek 21 = .ok (.iconst 1, 1) := by decide +kernel
theorem dX1_seek_22 : decode cX1_seek 22 = .ok (.invokestatic 27, 3) := by decide +kernel
theorem dX1_seek_25 : decode cX1_seek 25 = .ok (.pop, 1) := by decide +kernel
theorem dX1_seek_26 : decode cX1_seek 26 = .ok (.iconst 1, 1) := by decide +kernel
theorem dX1_seek_27 : decode cX1_seek 27 = .ok (.istore_n 3, 1) := by decide +kernel
theorem dX1_seek_28 : decode cX1_seek 28 = .ok (.iload_n 3, 1) := by decide +kernel
theorem dX1_seek_29 : decode cX1_seek 29 = .ok (.iconst 1, 1) := by decide +kernel
theorem dX1_seek_30 : decode cX1_seek 30 = .ok (.iload_n 2, 1) := by decide +kernel
theorem dX1_seek_31 : decode cX1_seek 31 = .ok (.ishl, 1) := by decide +kernel
theorem dX1_seek_32 : decode cX1_seek 32 = .ok (.if_icmp .ge 21, 3) := by decide +kernel
theorem dX1_seek_35 : decode cX1_seek 35 = .ok (.aload_n 0, 1) := by decide +kernel
theorem dX1_seek_36 : decode cX1_seek 36 = .ok (.getfield 18, 3) := by decide +kernel
theorem dX1_seek_39 : decode cX1_seek 39 = .ok (.iload_n 3, 1) := by decide +kernel
theorem dX1_seek_40 : decode cX1_seek 40 = .ok (.aload_n 0, 1) := by decide +kernel
theorem dX1_seek_41 : decode cX1_seek 41 = .ok (.aload_n 1, 1) := by decide +kernel
theorem dX1_seek_42 : decode cX1_seek 42 = .ok (.iload_n 3, 1) := by decide +kernel
theorem dX1_seek_43 : decode cX1_seek 43 = .ok (.invokevirtual 31, 3) := by decide +kernel
theorem dX1_seek_46 : decode cX1_seek 46 = .ok (.iastore, 1) := by decide +kernel
theorem dX1_seek_47 : decode cX1_seek 47 = .ok (.iinc 3 1, 3) := by decide +kernel
theorem dX1_seek_50 : decode cX1_seek 50 = .ok (.goto (-22), 3) := by decide +kernel
theorem dX1_seek_53 : decode cX1_seek 53 = .ok (.aload_n 0, 1) := by decide +kernel
theorem dX1_seek_54 : decode cX1_seek 54 = .ok (.getfield 18, 3) := by decide +kernel
theorem dX1_seek_57 : decode cX1_seek 57 = .ok (.iconst 1, 1) := by decide +kernel
theorem dX1_seek_58 : decode cX1_seek 58 = .ok (.iload_n 2, 1) := by decide +kernel
theorem dX1_seek_59 : decode cX1_seek 59 = .ok (.ishl, 1) := by decide +kernel
theorem dX1_seek_60 : decode cX1_seek 60 = .ok (.iconst 1, 1) := by decide +kernel
theorem dX1_seek_61 : decode cX1_seek 61 = .ok (.isub, 1) := by decide +kernel
theorem dX1_seek_62 : decode cX1_seek 62 = .ok (.iaload, 1) := by decide +kernel
theorem dX1_seek_63 : decode cX1_seek 63 = .ok (.ireturn, 1) := by decide +kernel
theorem dX1_list_0 : decode cX1_list 0 = .ok (.iconst 0, 1) := by decide +kernel
theorem dX1_list_1 : decode cX1_list 1 = .ok (.istore_n 3, 1) := by decide +kernel
theorem dX1_list_2 : decode cX1_list 2 = .ok (.iconst 0, 1) := by decide +kernel
theorem dX1_list_3 : decode cX1_list 3 = .ok (.istore 4, 2) := by decide +kernel
theorem dX1_list_5 : decode cX1_list 5 = .ok (.iload 4, 2) := by decide +kernel
theorem dX1_list_7 : decode cX1_list 7 = .ok (.bipush 6, 2) := by decide +kernel
theorem dX1_list_9 : decode cX1_list 9 = .ok (.if_icmp .ge 49, 3) := by decide +kernel
theorem dX1_list_12 : decode cX1_list 12 = .ok (.iload_n 2, 1) := by decide +kernel
theorem dX1_list_13 : decode cX1_list 13 = .ok (.aload_n 0, 1) := by decide +kernel
theorem dX1_list_14 : decode cX1_list 14 = .ok (.iload 4, 2) := by decide +kernel
theorem dX1_list_16 : decode cX1_list 16 = .ok (.invokevirtual 35, 3) := by decide +kernel
theorem dX1_list_19 : decode cX1_list 19 = .ok (.imul, 1) := by decide +kernel
theorem dX1_list_20 : decode cX1_list 20 = .ok (.istore 5, 2) := by decide +kernel
theorem dX1_list_22 : decode cX1_list 22 = .ok (.iconst 0, 1) := by decide +kernel
theorem dX1_list_23 : decode cX1_list 23 = .ok (.istore 6, 2) := by decide +kernel
theorem dX1_list_25 : decode cX1_list 25 = .ok (.iload 6, 2) := by decide +kernel
theorem dX1_list_27 : decode cX1_list 27 = .ok (.iload 5, 2) := by decide +kernel
theorem dX1_list_29 : decode cX1_list 29 = .ok (.if_icmp .ge 23, 3) := by decide +kernel
theorem dX1_list_32 : decode cX1_list 32 = .ok (.iload_n 3, 1) := by decide +kernel
theorem dX1_list_33 : decode cX1_list 33 = .ok (.aload_n 1, 1) := by decide +kernel
theorem dX1_list_34 : decode cX1_list 34 = .ok (.arraylength, 1) := by decide +kernel
theorem dX1_list_35 : decode cX1_list 35 = .ok (.if_icmp .ge 17, 3) := by decide +kernel
theorem dX1_list_38 : decode cX1_list 38 = .ok (.aload_n 1, 1) := by decide +kernel
theorem dX1_list_39 : decode cX1_list 39 = .ok (.iload_n 3, 1) := by decide +kernel
theorem dX1_list_40 : decode cX1_list 40 = .ok (.iload 4, 2) := by decide +kernel
theorem dX1_list_42 : decode cX1_list 42 = .ok (.iastore, 1) := by decide +kernel
theorem dX1_list_43 : decode cX1_list 43 = .ok (.iinc 3 1, 3) := by decide +kernel
theorem dX1_list_46 : decode cX1_list 46 = .ok (.iinc 6 1, 3) := by decide +kernel
theorem dX1_list_49 : decode cX1_list 49 = .ok (.goto (-24), 3) := by decide +kernel
theorem dX1_list_52 : decode cX1_list 52 = .ok (.iinc 4 1, 3) := by decide +kernel
theorem dX1_list_55 : decode cX1_list 55 = .ok (.goto (-50), 3) := by decide +kernel
theorem dX1_list_58 : decode cX1_list 58 = .ok (.iload_n 3, 1) := by decide +kernel
theorem dX1_list_59 : decode cX1_list 59 = .ok (.ireturn, 1) := by decide +kernel
theorem dX1_leastOf_0 : decode cX1_leastOf 0 = .ok (.aload_n 0, 1) := by decide +kernel
theorem dX1_leastOf_1 : decode cX1_leastOf 1 = .ok (.getfield 9, 3) := by decide +kernel
theorem dX1_leastOf_4 : decode cX1_leastOf 4 = .ok (.iload_n 2, 1) := by decide +kernel
theorem dX1_leastOf_5 : decode cX1_leastOf 5 = .ok (.invokestatic 41, 3) := by decide +kernel
theorem dX1_leastOf_8 : decode cX1_leastOf 8 = .ok (.iconst 1, 1) := by decide +kernel
theorem dX1_leastOf_9 : decode cX1_leastOf 9 = .ok (.isub, 1) := by decide +kernel
theorem dX1_leastOf_10 : decode cX1_leastOf 10 = .ok (.iaload, 1) := by decide +kernel
theorem dX1_leastOf_11 : decode cX1_leastOf 11 = .ok (.istore_n 3, 1) := by decide +kernel
theorem dX1_leastOf_12 : decode cX1_leastOf 12 = .ok (.ldc 46, 2) := by decide +kernel
theorem dX1_leastOf_14 : decode cX1_leastOf 14 = .ok (.istore 4, 2) := by decide +kernel
theorem dX1_leastOf_16 : decode cX1_leastOf 16 = .ok (.iconst 0, 1) := by decide +kernel
theorem dX1_leastOf_17 : decode cX1_leastOf 17 = .ok (.istore 5, 2) := by decide +kernel
theorem dX1_leastOf_19 : decode cX1_leastOf 19 = .ok (.iload 5, 2) := by decide +kernel
theorem dX1_leastOf_21 : decode cX1_leastOf 21 = .ok (.bipush 8, 2) := by decide +kernel
theorem dX1_leastOf_23 : decode cX1_leastOf 23 = .ok (.if_icmp .ge 51, 3) := by decide +kernel
theorem dX1_leastOf_26 : decode cX1_leastOf 26 = .ok (.iload_n 2, 1) := by decide +kernel
theorem dX1_leastOf_27 : decode cX1_leastOf 27 = .ok (.iload 5, 2) := by decide +kernel
theorem dX1_leastOf_29 : decode cX1_leastOf 29 = .ok (.ishr, 1) := by decide +kernel
theorem dX1_leastOf_30 : decode cX1_leastOf 30 = .ok (.iconst 1, 1) := by decide +kernel
theorem dX1_leastOf_31 : decode cX1_leastOf 31 = .ok (.iand, 1) := by decide +kernel
theorem dX1_leastOf_32 : decode cX1_leastOf 32 = .ok (.ifCond .eq 36, 3) := by decide +kernel
theorem dX1_leastOf_35 : decode cX1_leastOf 35 = .ok (.iload 4, 2) := by decide +kernel
theorem dX1_leastOf_37 : decode cX1_leastOf 37 = .ok (.aload_n 0, 1) := by decide +kernel
theorem dX1_leastOf_38 : decode cX1_leastOf 38 = .ok (.getfield 18, 3) := by decide +kernel
theorem dX1_leastOf_41 : decode cX1_leastOf 41 = .ok (.iload_n 2, 1) := by decide +kernel
theorem dX1_leastOf_42 : decode cX1_leastOf 42 = .ok (.iconst 1, 1) := by decide +kernel
theorem dX1_leastOf_43 : decode cX1_leastOf 43 = .ok (.iload 5, 2) := by decide +kernel
theorem dX1_leastOf_45 : decode cX1_leastOf 45 = .ok (.ishl, 1) := by decide +kernel
theorem dX1_leastOf_46 : decode cX1_leastOf 46 = .ok (.iconst (-1), 1) := by decide +kernel
theorem dX1_leastOf_47 : decode cX1_leastOf 47 = .ok (.ixor, 1) := by decide +kernel
theorem dX1_leastOf_48 : decode cX1_leastOf 48 = .ok (.iand, 1) := by decide +kernel
theorem dX1_leastOf_49 : decode cX1_leastOf 49 = .ok (.iaload, 1) := by decide +kernel
theorem dX1_leastOf_50 : decode cX1_leastOf 50 = .ok (.aload_n 1, 1) := by decide +kernel
theorem dX1_leastOf_51 : decode cX1_leastOf 51 = .ok (.iload_n 3, 1) := by decide +kernel
theorem dX1_leastOf_52 : decode cX1_leastOf 52 = .ok (.aload_n 0, 1) := by decide +kernel
theorem dX1_leastOf_53 : decode cX1_leastOf 53 = .ok (.getfield 15, 3) := by decide +kernel
theorem dX1_leastOf_56 : decode cX1_leastOf 56 = .ok (.iload 5, 2) := by decide +kernel
theorem dX1_leastOf_58 : decode cX1_leastOf 58 = .ok (.iaload, 1) := by decide +kernel
theorem dX1_leastOf_59 : decode cX1_leastOf 59 = .ok (.invokevirtual 47, 3) := by decide +kernel
theorem dX1_leastOf_62 : decode cX1_leastOf 62 = .ok (.iadd, 1) := by decide +kernel
