theorem dJ0_charAt_5068e_0 : decode cJ0_charAt_5068e 0 = .ok (.aload_n 0, 1) := by decide +kernel
theorem dJ0_charAt_5068e_1 : decode cJ0_charAt_5068e 1 = .ok (.invokevirtual 492, 3) := by decide +kernel
theorem dJ0_charAt_5068e_4 : decode cJ0_charAt_5068e 4 = .ok (.ifCond .eq 12, 3) := by decide +kernel
theorem dJ0_charAt_5068e_7 : decode cJ0_charAt_5068e 7 = .ok (.aload_n 0, 1) := by decide +kernel
theorem dJ0_charAt_5068e_8 : decode cJ0_charAt_5068e 8 = .ok (.getfield 9, 3) := by decide +kernel
theorem dJ0_charAt_5068e_11 : decode cJ0_charAt_5068e 11 = .ok (.iload_n 1, 1) := by decide +kernel
theorem dJ0_charAt_5068e_12 : decode cJ0_charAt_5068e 12 = .ok (.invokestatic 495, 3) := by decide +kernel
theorem dJ0_charAt_5068e_15 : decode cJ0_charAt_5068e 15 = .ok (.ireturn, 1) := by decide +kernel
theorem dJ0_charAt_5068e_16 : decode cJ0_charAt_5068e 16 = .ok (.aload_n 0, 1) := by decide +kernel
theorem dJ0_charAt_5068e_17 : decode cJ0_charAt_5068e 17 = .ok (.getfield 9, 3) := by decide +kernel
theorem dJ0_charAt_5068e_20 : decode cJ0_charAt_5068e 20 = .ok (.iload_n 1, 1) := by decide +kernel
theorem dJ0_charAt_5068e_21 : decode cJ0_charAt_5068e 21 = .ok (.invokestatic 498, 3) := by decide +kernel
theorem dJ0_charAt_5068e_24 : decode cJ0_charAt_5068e 24 = .ok (.ireturn, 1) := by decide +kernel
theorem dJ0_checkBoundsBeginEnd_23922_0 : decode cJ0_checkBoundsBeginEnd_23922 0 = .ok (.iload_n 0, 1) := by decide +kernel
theorem dJ0_checkBoundsBeginEnd_23922_1 : decode cJ0_checkBoundsBeginEnd_23922 1 = .ok (.iload_n 1, 1) := by decide +kernel
theorem dJ0_checkBoundsBeginEnd_23922_2 : decode cJ0_checkBoundsBeginEnd_23922 2 = .ok (.iload_n 2, 1) := by decide +kernel
theorem dJ0_checkBoundsBeginEnd_23922_3 : decode cJ0_checkBoundsBeginEnd_23922 3 = .ok (.getstatic 1053, 3) := by decide +kernel
theorem dJ0_checkBoundsBeginEnd_23922_6 : decode cJ0_checkBoundsBeginEnd_23922 6 = .ok (.invokestatic 1062, 3) := by decide +kernel
theorem dJ0_checkBoundsBeginEnd_23922_9 : decode cJ0_checkBoundsBeginEnd_23922 9 = .ok (.pop, 1) := by decide +kernel
theorem dJ0_checkBoundsBeginEnd_23922_10 : decode cJ0_checkBoundsBeginEnd_23922 10 = .ok (.return_, 1) := by decide +kernel
theorem dJ0_checkBoundsOffCount_cabcc_0 : decode cJ0_checkBoundsOffCount_cabcc 0 = .ok (.iload_n 0, 1) := by decide +kernel
theorem dJ0_checkBoundsOffCount_cabcc_1 : decode cJ0_checkBoundsOffCount_cabcc 1 = .ok (.iload_n 1, 1) := by decide +kernel
theorem dJ0_checkBoundsOffCount_cabcc_2 : decode cJ0_checkBoundsOffCount_cabcc 2 = .ok (.iload_n 2, 1) := by decide +kernel
theorem dJ0_checkBoundsOffCount_cabcc_3 : decode cJ0_checkBoundsOffCount_cabcc 3 = .ok (.getstatic 1053, 3) := by decide +kernel
theorem dJ0_checkBoundsOffCount_cabcc_6 : decode cJ0_checkBoundsOffCount_cabcc 6 = .ok (.invokestatic 1065, 3) := by decide +kernel
theorem dJ0_checkBoundsOffCount_cabcc_9 : decode cJ0_checkBoundsOffCount_cabcc 9 = .ok (.ireturn, 1) := by decide +kernel
theorem dJ0_checkIndex_df160_0 : decode cJ0_checkIndex_df160 0 = .ok (.iload_n 0, 1) := by decide +kernel
theorem dJ0_checkIndex_df160_1 : decode cJ0_checkIndex_df160 1 = .ok (.iload_n 1, 1) := by decide +kernel
theorem dJ0_checkIndex_df160_2 : decode cJ0_checkIndex_df160 2 = .ok (.getstatic 1053, 3) := by decide +kernel
theorem dJ0_checkIndex_df160_5 : decode cJ0_checkIndex_df160 5 = .ok (.invokestatic 1059, 3) := by decide +kernel
theorem dJ0_checkIndex_df160_8 : decode cJ0_checkIndex_df160 8 = .ok (.pop, 1) := by decide +kernel
theorem dJ0_checkIndex_df160_9 : decode cJ0_checkIndex_df160 9 = .ok (.return_, 1) := by decide +kernel
theorem dJ0_coder_7d493_0 : decode cJ0_coder_7d493 0 = .ok (.getstatic 38, 3) := by decide +kernel
theorem dJ0_coder_7d493_3 : decode cJ0_coder_7d493 3 = .ok (.ifCond .eq 10, 3) := by decide +kernel
theorem dJ0_coder_7d493_6 : decode cJ0_coder_7d493 6 = .ok (.aload_n 0, 1) := by decide +kernel
theorem dJ0_coder_7d493_7 : decode cJ0_coder_7d493 7 = .ok (.getfield 15, 3) := by decide +kernel
theorem dJ0_coder_7d493_10 : decode cJ0_coder_7d493 10 = .ok (.goto 4, 3) := by decide +kernel
theorem dJ0_coder_7d493_13 : decode cJ0_coder_7d493 13 = .ok (.iconst 1, 1) := by decide +kernel
theorem dJ0_coder_7d493_14 : decode cJ0_coder_7d493 14 = .ok (.ireturn, 1) := by decide +kernel
theorem dJ0_getBytes_840e7_0 : decode cJ0_getBytes_840e7 0 = .ok (.aload_n 0, 1) := by decide +kernel
theorem dJ0_getBytes_840e7_1 : decode cJ0_getBytes_840e7 1 = .ok (.invokevirtual 335, 3) := by decide +kernel
theorem dJ0_getBytes_840e7_4 : decode cJ0_getBytes_840e7 4 = .ok (.iload_n 3, 1) := by decide +kernel
theorem dJ0_getBytes_840e7_5 : decode cJ0_getBytes_840e7 5 = .ok (.if_icmp .ne 23, 3) := by decide +kernel
theorem dJ0_getBytes_840e7_8 : decode cJ0_getBytes_840e7 8 = .ok (.aload_n 0, 1) := by decide +kernel
theorem dJ0_getBytes_840e7_9 : decode cJ0_getBytes_840e7 9 = .ok (.getfield 9, 3) := by decide +kernel
theorem dJ0_getBytes_840e7_12 : decode cJ0_getBytes_840e7 12 = .ok (.iconst 0, 1) := by decide +kernel
theorem dJ0_getBytes_840e7_13 : decode cJ0_getBytes_840e7 13 = .ok (.aload_n 1, 1) := by decide +kernel
theorem dJ0_getBytes_840e7_14 : decode cJ0_getBytes_840e7 14 = .ok (.iload_n 2, 1) := by decide +kernel
theorem dJ0_getBytes_840e7_15 : decode cJ0_getBytes_840e7 15 = .ok (.iload_n 3, 1) := by decide +kernel
theorem dJ0_getBytes_840e7_16 : decode cJ0_getBytes_840e7 16 = .ok (.ishl, 1) := by decide +kernel
theorem dJ0_getBytes_840e7_17 : decode cJ0_getBytes_840e7 17 = .ok (.aload_n 0, 1) := by decide +kernel
theorem dJ0_getBytes_840e7_18 : decode cJ0_getBytes_840e7 18 = .ok (.getfield 9, 3) := by decide +kernel
theorem dJ0_getBytes_840e7_21 : decode cJ0_getBytes_840e7 21 = .ok (.arraylength, 1) := by decide +kernel
theorem dJ0_getBytes_840e7_22 : decode cJ0_getBytes_840e7 22 = .ok (.invokestatic 212, 3) := by decide +kernel
theorem dJ0_getBytes_840e7_25 : decode cJ0_getBytes_840e7 25 = .ok (.goto 18, 3) := by decide +kernel
theorem dJ0_getBytes_840e7_28 : decode cJ0_getBytes_840e7 28 = .ok (.aload_n 0, 1) := by decide +kernel
theorem dJ0_getBytes_840e7_29 : decode cJ0_getBytes_840e7 29 = .ok (.getfield 9, 3) := by decide +kernel
theorem dJ0_getBytes_840e7_32 : decode cJ0_getBytes_840e7 32 = .ok (.iconst 0, 1) := by decide +kernel
theorem dJ0_getBytes_840e7_33 : decode cJ0_getBytes_840e7 33 = .ok (.aload_n 1, 1) := by decide +kernel
theorem dJ0_getBytes_840e7_34 : decode cJ0_getBytes_840e7 34 = .ok (.iload_n 2, 1) := by decide +kernel
theorem dJ0_getBytes_840e7_35 : decode cJ0_getBytes_840e7 35 = .ok (.aload_n 0, 1) := by decide +kernel
theorem dJ0_getBytes_840e7_36 : decode cJ0_getBytes_840e7 36 = .ok (.getfield 9, 3) := by decide +kernel
theorem dJ0_getBytes_840e7_39 : decode cJ0_getBytes_840e7 39 = .ok (.arraylength, 1) := by decide +kernel
theorem dJ0_getBytes_840e7_40 : decode cJ0_getBytes_840e7 40 = .ok (.invokestatic 106, 3) := by decide +kernel
theorem dJ0_getBytes_840e7_43 : decode cJ0_getBytes_840e7 43 = .ok (.return_, 1) := by decide +kernel
theorem dJ0_init_81219_0 : decode cJ0_init_81219 0 = .ok (.aload_n 0, 1) := by decide +kernel
theorem dJ0_init_81219_1 : decode cJ0_init_81219 1 = .ok (.aload_n 1, 1) := by decide +kernel
theorem dJ0_init_81219_2 : decode cJ0_init_81219 2 = .ok (.aconst_null, 1) := by decide +kernel
theorem dJ0_init_81219_3 : decode cJ0_init_81219 3 = .ok (.invokespecial 489, 3) := by decide +kernel
theorem dJ0_init_81219_6 : decode cJ0_init_81219 6 = .ok (.return_, 1) := by decide +kernel
theorem dJ0_init_db425_0 : decode cJ0_init_db425 0 = .ok (.aload_n 0, 1) := by decide +kernel
theorem dJ0_init_db425_1 : decode cJ0_init_db425 1 = .ok (.invokespecial 1, 3) := by decide +kernel
theorem dJ0_init_db425_4 : decode cJ0_init_db425 4 = .ok (.aload_n 1, 1) := by decide +kernel
theorem dJ0_init_db425_5 : decode cJ0_init_db425 5 = .ok (.invokevirtual 552, 3) := by decide +kernel
theorem dJ0_init_db425_8 : decode cJ0_init_db425 8 = .ok (.astore_n 3, 1) := by decide +kernel
theorem dJ0_init_db425_9 : decode cJ0_init_db425 9 = .ok (.aload_n 1, 1) := by decide +kernel
theorem dJ0_init_db425_10 : decode cJ0_init_db425 10 = .ok (.invokevirtual 549, 3) := by decide +kernel
theorem dJ0_init_db425_13 : decode cJ0_init_db425 13 = .ok (.istore 4, 2) := by decide +kernel
theorem dJ0_init_db425_15 : decode cJ0_init_db425 15 = .ok (.aload_n 1, 1) := by decide +kernel
theorem dJ0_init_db425_16 : decode cJ0_init_db425 16 = .ok (.invokevirtual 1047, 3) := by decide +kernel
theorem dJ0_init_db425_19 : decode cJ0_init_db425 19 = .ok (.ifCond .eq 22, 3) := by decide +kernel
theorem dJ0_init_db425_22 : decode cJ0_init_db425 22 = .ok (.aload_n 0, 1) := by decide +kernel
theorem dJ0_init_db425_23 : decode cJ0_init_db425 23 = .ok (.iconst 0, 1) := by decide +kernel
theorem dJ0_init_db425_24 : decode cJ0_init_db425 24 = .ok (.putfield 15, 3) := by decide +kernel
theorem dJ0_init_db425_27 : decode cJ0_init_db425 27 = .ok (.aload_n 0, 1) := by decide +kernel
theorem dJ0_init_db425_28 : decode cJ0_init_db425 28 = .ok (.aload_n 3, 1) := by decide +kernel
theorem dJ0_init_db425_29 : decode cJ0_init_db425 29 = .ok (.iconst 0, 1) := by decide +kernel
theorem dJ0_init_db425_30 : decode cJ0_init_db425 30 = .ok (.iload 4, 2) := by decide +kernel
theorem dJ0_init_db425_32 : decode cJ0_init_db425 32 = .ok (.invokestatic 54, 3) := by decide +kernel
theorem dJ0_init_db425_35 : decode cJ0_init_db425 35 = .ok (.putfield 9, 3) := by decide +kernel
theorem dJ0_init_db425_38 : decode cJ0_init_db425 38 = .ok (.goto 59, 3) := by decide +kernel
theorem dJ0_init_db425_41 : decode cJ0_init_db425 41 = .ok (.getstatic 38, 3) := by decide +kernel
theorem dJ0_init_db425_44 : decode cJ0_init_db425 44 = .ok (.ifCond .eq 35, 3) := by decide +kernel
theorem dJ0_init_db425_47 : decode cJ0_init_db425 47 = .ok (.aload_n 1, 1) := by decide +kernel
theorem dJ0_init_db425_48 : decode cJ0_init_db425 48 = .ok (.getfield 1048, 3) := by decide +kernel
theorem dJ0_init_db425_51 : decode cJ0_init_db425 51 = .ok (.ifCond .eq 28, 3) := by decide +kernel
theorem dJ0_init_db425_54 : decode cJ0_init_db425 54 = .ok (.aload_n 0, 1) := by decide +kernel
theorem dJ0_init_db425_55 : decode cJ0_init_db425 55 = .ok (.aload_n 3, 1) := by decide +kernel
theorem dJ0_init_db425_56 : decode cJ0_init_db425 56 = .ok (.iconst 0, 1) := by decide +kernel
theorem dJ0_init_db425_57 : decode cJ0_init_db425 57 = .ok (.iload 4, 2) := by decide +kernel
theorem dJ0_init_db425_59 : decode cJ0_init_db425 59 = .ok (.invokestatic 1051, 3) := by decide +kernel
theorem dJ0_init_db425_62 : decode cJ0_init_db425 62 = .ok (.putfield 9, 3) := by decide +kernel
theorem dJ0_init_db425_65 : decode cJ0_init_db425 65 = .ok (.aload_n 0, 1) := by decide +kernel
theorem dJ0_init_db425_66 : decode cJ0_init_db425 66 = .ok (.aload_n 0, 1) := by decide +kernel
theorem dJ0_init_db425_67 : decode cJ0_init_db425 67 = .ok (.getfield 9, 3) := by decide +kernel
theorem dJ0_init_db425_70 : decode cJ0_init_db425 70 = .ok (.iload 4, 2) := by decide +kernel
theorem dJ0_init_db425_72 : decode cJ0_init_db425 72 = .ok (.invokestatic 47, 3) := by decide +kernel
theorem dJ0_init_db425_75 : decode cJ0_init_db425 75 = .ok (.putfield 15, 3) := by decide +kernel
theorem dJ0_init_db425_78 : decode cJ0_init_db425 78 = .ok (.return_, 1) := by decide +kernel
theorem dJ0_init_db425_79 : decode cJ0_init_db425 79 = .ok (.aload_n 0, 1) := by decide +kernel
theorem dJ0_init_db425_80 : decode cJ0_init_db425 80 = .ok (.iconst 1, 1) := by decide +kernel
theorem dJ0_init_db425_81 : decode cJ0_init_db425 81 = .ok (.putfield 15, 3) := by decide +kernel
theorem dJ0_init_db425_84 : decode cJ0_init_db425 84 = .ok (.aload_n 0, 1) := by decide +kernel
theorem dJ0_init_db425_85 : decode cJ0_init_db425 85 = .ok (.aload_n 3, 1) := by decide +kernel
theorem dJ0_init_db425_86 : decode cJ0_init_db425 86 = .ok (.iconst 0, 1) := by decide +kernel
theorem dJ0_init_db425_87 : decode cJ0_init_db425 87 = .ok (.iload 4, 2) := by decide +kernel
theorem dJ0_init_db425_89 : decode cJ0_init_db425 89 = .ok (.iconst 1, 1) := by decide +kernel
theorem dJ0_init_db425_90 : decode cJ0_init_db425 90 = .ok (.ishl, 1) := by decide +kernel
theorem dJ0_init_db425_91 : decode cJ0_init_db425 91 = .ok (.invokestatic 54, 3) := by decide +kernel
theorem dJ0_init_db425_94 : decode cJ0_init_db425 94 = .ok (.putfield 9, 3) := by decide +kernel
theorem dJ0_init_db425_97 : decode cJ0_init_db425 97 = .ok (.return_, 1) := by decide +kernel
theorem dJ0_isLatin1_aae02_0 : decode cJ0_isLatin1_aae02 0 = .ok (.getstatic 38, 3) := by decide +kernel
theorem dJ0_isLatin1_aae02_3 : decode cJ0_isLatin1_aae02 3 = .ok (.ifCond .eq 14, 3) := by decide +kernel
theorem dJ0_isLatin1_aae02_6 : decode cJ0_isLatin1_aae02 6 = .ok (.aload_n 0, 1) := by decide +kernel
theorem dJ0_isLatin1_aae02_7 : decode cJ0_isLatin1_aae02 7 = .ok (.getfield 15, 3) := by decide +kernel
theorem dJ0_isLatin1_aae02_10 : decode cJ0_isLatin1_aae02 10 = .ok (.ifCond .ne 7, 3) := by decide +kernel
theorem dJ0_isLatin1_aae02_13 : decode cJ0_isLatin1_aae02 13 = .ok (.iconst 1, 1) := by decide +kernel
theorem dJ0_isLatin1_aae02_14 : decode cJ0_isLatin1_aae02 14 = .ok (.goto 4, 3) := by decide +kernel
theorem dJ0_isLatin1_aae02_17 : decode cJ0_isLatin1_aae02 17 = .ok (.iconst 0, 1) := by decide +kernel
theorem dJ0_isLatin1_aae02_18 : decode cJ0_isLatin1_aae02 18 = .ok (.ireturn, 1) := by decide +kernel
theorem dJ0_length_8abf5_0 : decode cJ0_length_8abf5 0 = .ok (.aload_n 0, 1) := by decide +kernel
theorem dJ0_length_8abf5_1 : decode cJ0_length_8abf5 1 = .ok (.getfield 9, 3) := by decide +kernel
theorem dJ0_length_8abf5_4 : decode cJ0_length_8abf5 4 = .ok (.arraylength, 1) := by decide +kernel
theorem dJ0_length_8abf5_5 : decode cJ0_length_8abf5 5 = .ok (.aload_n 0, 1) := by decide +kernel
theorem dJ0_length_8abf5_6 : decode cJ0_length_8abf5 6 = .ok (.invokevirtual 335, 3) := by decide +kernel
theorem dJ0_length_8abf5_9 : decode cJ0_length_8abf5 9 = .ok (.ishr, 1) := by decide +kernel
theorem dJ0_length_8abf5_10 : decode cJ0_length_8abf5 10 = .ok (.ireturn, 1) := by decide +kernel
theorem dJ1_canEncode_fc78d_0 : decode cJ1_canEncode_fc78d 0 = .ok (.iload_n 0, 1) := by decide +kernel
theorem dJ1_canEncode_fc78d_1 : decode cJ1_canEncode_fc78d 1 = .ok (.sipush 255, 3) := by decide +kernel
theorem dJ1_canEncode_fc78d_4 : decode cJ1_canEncode_fc78d 4 = .ok (.if_icmp .gt 7, 3) := by decide +kernel
theorem dJ1_canEncode_fc78d_7 : decode cJ1_canEncode_fc78d 7 = .ok (.iconst 1, 1) := by decide +kernel
theorem dJ1_canEncode_fc78d_8 : decode cJ1_canEncode_fc78d 8 = .ok (.goto 4, 3) := by decide +kernel
theorem dJ1_canEncode_fc78d_11 : decode cJ1_canEncode_fc78d 11 = .ok (.iconst 0, 1) := by decide +kernel
theorem dJ1_canEncode_fc78d_12 : decode cJ1_canEncode_fc78d 12 = .ok (.ireturn, 1) := by decide +kernel
theorem dJ1_charAt_3b067_0 : decode cJ1_charAt_3b067 0 = .ok (.iload_n 1, 1) := by decide +kernel
theorem dJ1_charAt_3b067_1 : decode cJ1_charAt_3b067 1 = .ok (.aload_n 0, 1) := by decide +kernel
theorem dJ1_charAt_3b067_2 : decode cJ1_charAt_3b067 2 = .ok (.arraylength, 1) := by decide +kernel
theorem dJ1_charAt_3b067_3 : decode cJ1_charAt_3b067 3 = .ok (.invokestatic 9, 3) := by decide +kernel
theorem dJ1_charAt_3b067_6 : decode cJ1_charAt_3b067 6 = .ok (.aload_n 0, 1) := by decide +kernel
theorem dJ1_charAt_3b067_7 : decode cJ1_charAt_3b067 7 = .ok (.iload_n 1, 1) := by decide +kernel
theorem dJ1_charAt_3b067_8 : decode cJ1_charAt_3b067 8 = .ok (.baload, 1) := by decide +kernel
theorem dJ1_charAt_3b067_9 : decode cJ1_charAt_3b067 9 = .ok (.sipush 255, 3) := by decide +kernel
theorem dJ1_charAt_3b067_12 : decode cJ1_charAt_3b067 12 = .ok (.iand, 1) := by decide +kernel
theorem dJ1_charAt_3b067_13 : decode cJ1_charAt_3b067 13 = .ok (.i2c, 1) := by decide +kernel
theorem dJ1_charAt_3b067_14 : decode cJ1_charAt_3b067 14 = .ok (.ireturn, 1) := by decide +kernel
theorem dJ1_inflate_0e8fd_0 : decode cJ1_inflate_0e8fd 0 = .ok (.aload_n 0, 1) := by decide +kernel
theorem dJ1_inflate_0e8fd_1 : decode cJ1_inflate_0e8fd 1 = .ok (.iload_n 1, 1) := by decide +kernel
theorem dJ1_inflate_0e8fd_2 : decode cJ1_inflate_0e8fd 2 = .ok (.aload_n 2, 1) := by decide +kernel
theorem dJ1_inflate_0e8fd_3 : decode cJ1_inflate_0e8fd 3 = .ok (.iload_n 3, 1) := by decide +kernel
theorem dJ1_inflate_0e8fd_4 : decode cJ1_inflate_0e8fd 4 = .ok (.iload 4, 2) := by decide +kernel
theorem dJ1_inflate_0e8fd_6 : decode cJ1_inflate_0e8fd 6 = .ok (.invokestatic 240, 3) := by decide +kernel
theorem dJ1_inflate_0e8fd_9 : decode cJ1_inflate_0e8fd 9 = .ok (.return_, 1) := by decide +kernel
theorem dJ2_charAt_3b067_0 : decode cJ2_charAt_3b067 0 = .ok (.iload_n 1, 1) := by decide +kernel
theorem dJ2_charAt_3b067_1 : decode cJ2_charAt_3b067 1 = .ok (.aload_n 0, 1) := by decide +kernel
theorem dJ2_charAt_3b067_2 : decode cJ2_charAt_3b067 2 = .ok (.invokestatic 67, 3) := by decide +kernel
theorem dJ2_charAt_3b067_5 : decode cJ2_charAt_3b067 5 = .ok (.aload_n 0, 1) := by decide +kernel
theorem dJ2_charAt_3b067_6 : decode cJ2_charAt_3b067 6 = .ok (.iload_n 1, 1) := by decide +kernel
theorem dJ2_charAt_3b067_7 : decode cJ2_charAt_3b067 7 = .ok (.invokestatic 71, 3) := by decide +kernel
theorem dJ2_charAt_3b067_10 : decode cJ2_charAt_3b067 10 = .ok (.ireturn, 1) := by decide +kernel
theorem dJ2_checkBoundsBeginEnd_d044e_0 : decode cJ2_checkBoundsBeginEnd_d044e 0 = .ok (.iload_n 0, 1) := by decide +kernel
theorem dJ2_checkBoundsBeginEnd_d044e_1 : decode cJ2_checkBoundsBeginEnd_d044e 1 = .ok (.iload_n 1, 1) := by decide +kernel
theorem dJ2_checkBoundsBeginEnd_d044e_2 : decode cJ2_checkBoundsBeginEnd_d044e 2 = .ok (.aload_n 2, 1) := by decide +kernel
theorem dJ2_checkBoundsBeginEnd_d044e_3 : decode cJ2_checkBoundsBeginEnd_d044e 3 = .ok (.invokestatic 48, 3) := by decide +kernel
theorem dJ2_checkBoundsBeginEnd_d044e_6 : decode cJ2_checkBoundsBeginEnd_d044e 6 = .ok (.invokestatic 241, 3) := by decide +kernel
theorem dJ2_checkBoundsBeginEnd_d044e_9 : decode cJ2_checkBoundsBeginEnd_d044e 9 = .ok (.return_, 1) := by decide +kernel
theorem dJ2_checkBoundsOffCount_d044e_0 : decode cJ2_checkBoundsOffCount_d044e 0 = .ok (.iload_n 0, 1) := by decide +kernel
theorem dJ2_checkBoundsOffCount_d044e_1 : decode cJ2_checkBoundsOffCount_d044e 1 = .ok (.iload_n 1, 1) := by decide +kernel
theorem dJ2_checkBoundsOffCount_d044e_2 : decode cJ2_checkBoundsOffCount_d044e 2 = .ok (.aload_n 2, 1) := by decide +kernel
theorem dJ2_checkBoundsOffCount_d044e_3 : decode cJ2_checkBoundsOffCount_d044e 3 = .ok (.invokestatic 48, 3) := by decide +kernel
theorem dJ2_checkBoundsOffCount_d044e_6 : decode cJ2_checkBoundsOffCount_d044e 6 = .ok (.invokestatic 419, 3) := by decide +kernel
theorem dJ2_checkBoundsOffCount_d044e_9 : decode cJ2_checkBoundsOffCount_d044e 9 = .ok (.pop, 1) := by decide +kernel
theorem dJ2_checkBoundsOffCount_d044e_10 : decode cJ2_checkBoundsOffCount_d044e 10 = .ok (.return_, 1) := by decide +kernel
theorem dJ2_checkIndex_2214a_0 : decode cJ2_checkIndex_2214a 0 = .ok (.iload_n 0, 1) := by decide +kernel
theorem dJ2_checkIndex_2214a_1 : decode cJ2_checkIndex_2214a 1 = .ok (.aload_n 1, 1) := by decide +kernel
theorem dJ2_checkIndex_2214a_2 : decode cJ2_checkIndex_2214a 2 = .ok (.invokestatic 48, 3) := by decide +kernel
theorem dJ2_checkIndex_2214a_5 : decode cJ2_checkIndex_2214a 5 = .ok (.invokestatic 414, 3) := by decide +kernel
theorem dJ2_checkIndex_2214a_8 : decode cJ2_checkIndex_2214a 8 = .ok (.return_, 1) := by decide +kernel
theorem dJ2_coderFromArrayLen_85cad_0 : decode cJ2_coderFromArrayLen_85cad 0 = .ok (.iload_n 1, 1) := by decide +kernel
theorem dJ2_coderFromArrayLen_85cad_1 : decode cJ2_coderFromArrayLen_85cad 1 = .ok (.aload_n 0, 1) := by decide +kernel
theorem dJ2_coderFromArrayLen_85cad_2 : decode cJ2_coderFromArrayLen_85cad 2 = .ok (.arraylength, 1) := by decide +kernel
theorem dJ2_coderFromArrayLen_85cad_3 : decode cJ2_coderFromArrayLen_85cad 3 = .ok (.isub, 1) := by decide +kernel
theorem dJ2_coderFromArrayLen_85cad_4 : decode cJ2_coderFromArrayLen_85cad 4 = .ok (.bipush 31, 2) := by decide +kernel
theorem dJ2_coderFromArrayLen_85cad_6 : decode cJ2_coderFromArrayLen_85cad 6 = .ok (.iushr, 1) := by decide +kernel
theorem dJ2_coderFromArrayLen_85cad_7 : decode cJ2_coderFromArrayLen_85cad 7 = .ok (.i2b, 1) := by decide +kernel
theorem dJ2_coderFromArrayLen_85cad_8 : decode cJ2_coderFromArrayLen_85cad 8 = .ok (.ireturn, 1) := by decide +kernel
theorem dJ2_compress_39247_0 : decode cJ2_compress_39247 0 = .ok (.iload_n 2, 1) := by decide +kernel
theorem dJ2_compress_39247_1 : decode cJ2_compress_39247 1 = .ok (.newarray .byte, 2) := by decide +kernel
theorem dJ2_compress_39247_3 : decode cJ2_compress_39247 3 = .ok (.astore_n 3, 1) := by decide +kernel
theorem dJ2_compress_39247_4 : decode cJ2_compress_39247 4 = .ok (.aload_n 0, 1) := by decide +kernel
theorem dJ2_compress_39247_5 : decode cJ2_compress_39247 5 = .ok (.iload_n 1, 1) := by decide +kernel
theorem dJ2_compress_39247_6 : decode cJ2_compress_39247 6 = .ok (.aload_n 3, 1) := by decide +kernel
theorem dJ2_compress_39247_7 : decode cJ2_compress_39247 7 = .ok (.iconst 0, 1) := by decide +kernel
theorem dJ2_compress_39247_8 : decode cJ2_compress_39247 8 = .ok (.iload_n 2, 1) := by decide +kernel
theorem dJ2_compress_39247_9 : decode cJ2_compress_39247 9 = .ok (.invokestatic 123, 3) := by decide +kernel
theorem dJ2_compress_39247_12 : decode cJ2_compress_39247 12 = .ok (.istore 4, 2) := by decide +kernel
theorem dJ2_compress_39247_14 : decode cJ2_compress_39247 14 = .ok (.iload 4, 2) := by decide +kernel
theorem dJ2_compress_39247_16 : decode cJ2_compress_39247 16 = .ok (.iload_n 2, 1) := by decide +kernel
theorem dJ2_compress_39247_17 : decode cJ2_compress_39247 17 = .ok (.if_icmp .eq 47, 3) := by decide +kernel
theorem dJ2_compress_39247_20 : decode cJ2_compress_39247 20 = .ok (.aload_n 0, 1) := by decide +kernel
theorem dJ2_compress_39247_21 : decode cJ2_compress_39247 21 = .ok (.iload_n 1, 1) := by decide +kernel
theorem dJ2_compress_39247_22 : decode cJ2_compress_39247 22 = .ok (.iconst 1, 1) := by decide +kernel
theorem dJ2_compress_39247_23 : decode cJ2_compress_39247 23 = .ok (.ishl, 1) := by decide +kernel
theorem dJ2_compress_39247_24 : decode cJ2_compress_39247 24 = .ok (.iload_n 1, 1) := by decide +kernel
theorem dJ2_compress_39247_25 : decode cJ2_compress_39247 25 = .ok (.iload_n 2, 1) := by decide +kernel
theorem dJ2_compress_39247_26 : decode cJ2_compress_39247 26 = .ok (.iadd, 1) := by decide +kernel
theorem dJ2_compress_39247_27 : decode cJ2_compress_39247 27 = .ok (.invokestatic 11, 3) := by decide +kernel
theorem dJ2_compress_39247_30 : decode cJ2_compress_39247 30 = .ok (.invokestatic 126, 3) := by decide +kernel
theorem dJ2_compress_39247_33 : decode cJ2_compress_39247 33 = .ok (.astore 5, 2) := by decide +kernel
theorem dJ2_compress_39247_35 : decode cJ2_compress_39247 35 = .ok (.aload 5, 2) := by decide +kernel
theorem dJ2_compress_39247_37 : decode cJ2_compress_39247 37 = .ok (.iload 4, 2) := by decide +kernel
theorem dJ2_compress_39247_39 : decode cJ2_compress_39247 39 = .ok (.invokestatic 71, 3) := by decide +kernel
theorem dJ2_compress_39247_42 : decode cJ2_compress_39247 42 = .ok (.sipush 255, 3) := by decide +kernel
theorem dJ2_compress_39247_45 : decode cJ2_compress_39247 45 = .ok (.if_icmp .gt 16, 3) := by decide +kernel
theorem dJ2_compress_39247_48 : decode cJ2_compress_39247 48 = .ok (.aload 5, 2) := by decide +kernel
theorem dJ2_compress_39247_50 : decode cJ2_compress_39247 50 = .ok (.iconst 0, 1) := by decide +kernel
theorem dJ2_compress_39247_51 : decode cJ2_compress_39247 51 = .ok (.aload_n 3, 1) := by decide +kernel
theorem dJ2_compress_39247_52 : decode cJ2_compress_39247 52 = .ok (.iconst 0, 1) := by decide +kernel
theorem dJ2_compress_39247_53 : decode cJ2_compress_39247 53 = .ok (.iload_n 2, 1) := by decide +kernel
theorem dJ2_compress_39247_54 : decode cJ2_compress_39247 54 = .ok (.invokestatic 123, 3) := by decide +kernel
theorem dJ2_compress_39247_57 : decode cJ2_compress_39247 57 = .ok (.iload_n 2, 1) := by decide +kernel
theorem dJ2_compress_39247_58 : decode cJ2_compress_39247 58 = .ok (.if_icmp .eq 6, 3) := by decide +kernel
theorem dJ2_compress_39247_61 : decode cJ2_compress_39247 61 = .ok (.aload 5, 2) := by decide +kernel
theorem dJ2_compress_39247_63 : decode cJ2_compress_39247 63 = .ok (.areturn, 1) := by decide +kernel
theorem dJ2_compress_39247_64 : decode cJ2_compress_39247 64 = .ok (.aload_n 3, 1) := by decide +kernel
theorem dJ2_compress_39247_65 : decode cJ2_compress_39247 65 = .ok (.areturn, 1) := by decide +kernel
theorem dJ2_compress_5af95_0 : decode cJ2_compress_5af95 0 = .ok (.iload_n 1, 1) := by decide +kernel
theorem dJ2_compress_5af95_1 : decode cJ2_compress_5af95 1 = .ok (.iload 4, 2) := by decide +kernel
theorem dJ2_compress_5af95_3 : decode cJ2_compress_5af95 3 = .ok (.aload_n 0, 1) := by decide +kernel
theorem dJ2_compress_5af95_4 : decode cJ2_compress_5af95 4 = .ok (.invokestatic 173, 3) := by decide +kernel
theorem dJ2_compress_5af95_7 : decode cJ2_compress_5af95 7 = .ok (.iconst 0, 1) := by decide +kernel
theorem dJ2_compress_5af95_8 : decode cJ2_compress_5af95 8 = .ok (.istore 5, 2) := by decide +kernel
theorem dJ2_compress_5af95_10 : decode cJ2_compress_5af95 10 = .ok (.iload 5, 2) := by decide +kernel
theorem dJ2_compress_5af95_12 : decode cJ2_compress_5af95 12 = .ok (.iload 4, 2) := by decide +kernel
theorem dJ2_compress_5af95_14 : decode cJ2_compress_5af95 14 = .ok (.if_icmp .ge 39, 3) := by decide +kernel
theorem dJ2_compress_5af95_17 : decode cJ2_compress_5af95 17 = .ok (.aload_n 0, 1) := by decide +kernel
theorem dJ2_compress_5af95_18 : decode cJ2_compress_5af95 18 = .ok (.iload_n 1, 1) := by decide +kernel
theorem dJ2_compress_5af95_19 : decode cJ2_compress_5af95 19 = .ok (.invokestatic 71, 3) := by decide +kernel
theorem dJ2_compress_5af95_22 : decode cJ2_compress_5af95 22 = .ok (.istore 6, 2) := by decide +kernel
theorem dJ2_compress_5af95_24 : decode cJ2_compress_5af95 24 = .ok (.iload 6, 2) := by decide +kernel
theorem dJ2_compress_5af95_26 : decode cJ2_compress_5af95 26 = .ok (.sipush 255, 3) := by decide +kernel
theorem dJ2_compress_5af95_29 : decode cJ2_compress_5af95 29 = .ok (.if_icmp .le 6, 3) := by decide +kernel
theorem dJ2_compress_5af95_32 : decode cJ2_compress_5af95 32 = .ok (.iload 5, 2) := by decide +kernel
theorem dJ2_compress_5af95_34 : decode cJ2_compress_5af95 34 = .ok (.ireturn, 1) := by decide +kernel
theorem dJ2_compress_5af95_35 : decode cJ2_compress_5af95 35 = .ok (.aload_n 2, 1) := by decide +kernel
theorem dJ2_compress_5af95_36 : decode cJ2_compress_5af95 36 = .ok (.iload_n 3, 1) := by decide +kernel
theorem dJ2_compress_5af95_37 : decode cJ2_compress_5af95 37 = .ok (.iload 6, 2) := by decide +kernel
theorem dJ2_compress_5af95_39 : decode cJ2_compress_5af95 39 = .ok (.i2b, 1) := by decide +kernel
theorem dJ2_compress_5af95_40 : decode cJ2_compress_5af95 40 = .ok (.bastore, 1) := by decide +kernel
theorem dJ2_compress_5af95_41 : decode cJ2_compress_5af95 41 = .ok (.iinc 1 1, 3) := by decide +kernel
theorem dJ2_compress_5af95_44 : decode cJ2_compress_5af95 44 = .ok (.iinc 3 1, 3) := by decide +kernel
theorem dJ2_compress_5af95_47 : decode cJ2_compress_5af95 47 = .ok (.iinc 5 1, 3) := by decide +kernel
theorem dJ2_compress_5af95_50 : decode cJ2_compress_5af95 50 = .ok (.goto (-40), 3) := by decide +kernel
theorem dJ2_compress_5af95_53 : decode cJ2_compress_5af95 53 = .ok (.iload 4, 2) := by decide +kernel
theorem dJ2_compress_5af95_55 : decode cJ2_compress_5af95 55 = .ok (.ireturn, 1) := by decide +kernel
theorem dJ2_getChar_3b067_0 : decode cJ2_getChar_3b067 0 = .ok (.getstatic 44, 3) := by decide +kernel
theorem dJ2_getChar_3b067_3 : decode cJ2_getChar_3b067 3 = .ok (.ifCond .ne 25, 3) := by decide +kernel
theorem dJ2_getChar_3b067_6 : decode cJ2_getChar_3b067 6 = .ok (.iload_n 1, 1) := by decide +kernel
theorem dJ2_getChar_3b067_7 : decode cJ2_getChar_3b067 7 = .ok (.ifCond .lt 11, 3) := by decide +kernel
theorem dJ2_getChar_3b067_10 : decode cJ2_getChar_3b067 10 = .ok (.iload_n 1, 1) := by decide +kernel
theorem dJ2_getChar_3b067_11 : decode cJ2_getChar_3b067 11 = .ok (.aload_n 0, 1) := by decide +kernel
theorem dJ2_getChar_3b067_12 : decode cJ2_getChar_3b067 12 = .ok (.invokestatic 48, 3) := by decide +kernel
theorem dJ2_getChar_3b067_15 : decode cJ2_getChar_3b067 15 = .ok (.if_icmp .lt 13, 3) := by decide +kernel
theorem dJ2_getChar_3b067_18 : decode cJ2_getChar_3b067 18 = .ok (.new 52, 3) := by decide +kernel
theorem dJ2_getChar_3b067_21 : decode cJ2_getChar_3b067 21 = .ok (.dup, 1) := by decide +kernel
theorem dJ2_getChar_3b067_22 : decode cJ2_getChar_3b067 22 = .ok (.ldc 54, 2) := by decide +kernel
theorem dJ2_getChar_3b067_24 : decode cJ2_getChar_3b067 24 = .ok (.invokespecial 56, 3) := by decide +kernel
theorem dJ2_getChar_3b067_27 : decode cJ2_getChar_3b067 27 = .ok (.athrow, 1) := by decide +kernel
theorem dJ2_getChar_3b067_28 : decode cJ2_getChar_3b067 28 = .ok (.iload_n 1, 1) := by decide +kernel
theorem dJ2_getChar_3b067_29 : decode cJ2_getChar_3b067 29 = .ok (.iconst 1, 1) := by decide +kernel
theorem dJ2_getChar_3b067_30 : decode cJ2_getChar_3b067 30 = .ok (.ishl, 1) := by decide +kernel
theorem dJ2_getChar_3b067_31 : decode cJ2_getChar_3b067 31 = .ok (.istore_n 1, 1) := by decide +kernel
theorem dJ2_getChar_3b067_32 : decode cJ2_getChar_3b067 32 = .ok (.aload_n 0, 1) := by decide +kernel
theorem dJ2_getChar_3b067_33 : decode cJ2_getChar_3b067 33 = .ok (.iload_n 1, 1) := by decide +kernel
theorem dJ2_getChar_3b067_34 : decode cJ2_getChar_3b067 34 = .ok (.iinc 1 1, 3) := by decide +kernel
theorem dJ2_getChar_3b067_37 : decode cJ2_getChar_3b067 37 = .ok (.baload, 1) := by decide +kernel
theorem dJ2_getChar_3b067_38 : decode cJ2_getChar_3b067 38 = .ok (.sipush 255, 3) := by decide +kernel
theorem dJ2_getChar_3b067_41 : decode cJ2_getChar_3b067 41 = .ok (.iand, 1) := by decide +kernel
theorem dJ2_getChar_3b067_42 : decode cJ2_getChar_3b067 42 = .ok (.getstatic 59, 3) := by decide +kernel
theorem dJ2_getChar_3b067_45 : decode cJ2_getChar_3b067 45 = .ok (.ishl, 1) := by decide +kernel
theorem dJ2_getChar_3b067_46 : decode cJ2_getChar_3b067 46 = .ok (.aload_n 0, 1) := by decide +kernel
theorem dJ2_getChar_3b067_47 : decode cJ2_getChar_3b067 47 = .ok (.iload_n 1, 1) := by decide +kernel
theorem dJ2_getChar_3b067_48 : decode cJ2_getChar_3b067 48 = .ok (.baload, 1) := by decide +kernel
theorem dJ2_getChar_3b067_49 : decode cJ2_getChar_3b067 49 = .ok (.sipush 255, 3) := by decide +kernel
theorem dJ2_getChar_3b067_52 : decode cJ2_getChar_3b067 52 = .ok (.iand, 1) := by decide +kernel
theorem dJ2_getChar_3b067_53 : decode cJ2_getChar_3b067 53 = .ok (.getstatic 63, 3) := by decide +kernel
theorem dJ2_getChar_3b067_56 : decode cJ2_getChar_3b067 56 = .ok (.ishl, 1) := by decide +kernel
theorem dJ2_getChar_3b067_57 : decode cJ2_getChar_3b067 57 = .ok (.ior, 1) := by decide +kernel
theorem dJ2_getChar_3b067_58 : decode cJ2_getChar_3b067 58 = .ok (.i2c, 1) := by decide +kernel
theorem dJ2_getChar_3b067_59 : decode cJ2_getChar_3b067 59 = .ok (.ireturn, 1) := by decide +kernel
theorem dJ2_getChars_46870_0 : decode cJ2_getChars_46870 0 = .ok (.iload_n 1, 1) := by decide +kernel
theorem dJ2_getChars_46870_1 : decode cJ2_getChars_46870 1 = .ok (.iload_n 2, 1) := by decide +kernel
theorem dJ2_getChars_46870_2 : decode cJ2_getChars_46870 2 = .ok (.aload_n 3, 1) := by decide +kernel
theorem dJ2_getChars_46870_3 : decode cJ2_getChars_46870 3 = .ok (.invokestatic 96, 3) := by decide +kernel
theorem dJ2_getChars_46870_6 : decode cJ2_getChars_46870 6 = .ok (.iload_n 0, 1) := by decide +kernel
theorem dJ2_getChars_46870_7 : decode cJ2_getChars_46870 7 = .ok (.iload_n 2, 1) := by decide +kernel
theorem dJ2_getChars_46870_8 : decode cJ2_getChars_46870 8 = .ok (.aload_n 3, 1) := by decide +kernel
theorem dJ2_getChars_46870_9 : decode cJ2_getChars_46870 9 = .ok (.invokestatic 393, 3) := by decide +kernel
theorem dJ2_getChars_46870_12 : decode cJ2_getChars_46870 12 = .ok (.istore 4, 2) := by decide +kernel
theorem dJ2_getChars_46870_14 : decode cJ2_getChars_46870 14 = .ok (.getstatic 44, 3) := by decide +kernel
theorem dJ2_getChars_46870_17 : decode cJ2_getChars_46870 17 = .ok (.ifCond .ne 17, 3) := by decide +kernel
theorem dJ2_getChars_46870_20 : decode cJ2_getChars_46870 20 = .ok (.iload_n 1, 1) := by decide +kernel
theorem dJ2_getChars_46870_21 : decode cJ2_getChars_46870 21 = .ok (.iload 4, 2) := by decide +kernel
theorem dJ2_getChars_46870_23 : decode cJ2_getChars_46870 23 = .ok (.if_icmp .eq 11, 3) := by decide +kernel
theorem dJ2_getChars_46870_26 : decode cJ2_getChars_46870 26 = .ok (.new 52, 3) := by decide +kernel
theorem dJ2_getChars_46870_29 : decode cJ2_getChars_46870 29 = .ok (.dup, 1) := by decide +kernel
theorem dJ2_getChars_46870_30 : decode cJ2_getChars_46870 30 = .ok (.invokespecial 66, 3) := by decide +kernel
theorem dJ2_getChars_46870_33 : decode cJ2_getChars_46870 33 = .ok (.athrow, 1) := by decide +kernel
theorem dJ2_getChars_46870_34 : decode cJ2_getChars_46870 34 = .ok (.iload 4, 2) := by decide +kernel
theorem dJ2_getChars_46870_36 : decode cJ2_getChars_46870 36 = .ok (.ireturn, 1) := by decide +kernel
theorem dJ2_getChars_ba4f3_0 : decode cJ2_getChars_ba4f3 0 = .ok (.iload_n 1, 1) := by decide +kernel
theorem dJ2_getChars_ba4f3_1 : decode cJ2_getChars_ba4f3 1 = .ok (.istore 5, 2) := by decide +kernel
theorem dJ2_getChars_ba4f3_3 : decode cJ2_getChars_ba4f3 3 = .ok (.iload_n 0, 1) := by decide +kernel
theorem dJ2_getChars_ba4f3_4 : decode cJ2_getChars_ba4f3 4 = .ok (.ifCond .ge 7, 3) := by decide +kernel
theorem dJ2_getChars_ba4f3_7 : decode cJ2_getChars_ba4f3 7 = .ok (.iconst 1, 1) := by decide +kernel
theorem dJ2_getChars_ba4f3_8 : decode cJ2_getChars_ba4f3 8 = .ok (.goto 4, 3) := by decide +kernel
theorem dJ2_getChars_ba4f3_11 : decode cJ2_getChars_ba4f3 11 = .ok (.iconst 0, 1) := by decide +kernel
theorem dJ2_getChars_ba4f3_12 : decode cJ2_getChars_ba4f3 12 = .ok (.istore 6, 2) := by decide +kernel
theorem dJ2_getChars_ba4f3_14 : decode cJ2_getChars_ba4f3 14 = .ok (.iload 6, 2) := by decide +kernel
theorem dJ2_getChars_ba4f3_16 : decode cJ2_getChars_ba4f3 16 = .ok (.ifCond .ne 6, 3) := by decide +kernel
theorem dJ2_getChars_ba4f3_19 : decode cJ2_getChars_ba4f3 19 = .ok (.iload_n 0, 1) := by decide +kernel
theorem dJ2_getChars_ba4f3_20 : decode cJ2_getChars_ba4f3 20 = .ok (.ineg, 1) := by decide +kernel
theorem dJ2_getChars_ba4f3_21 : decode cJ2_getChars_ba4f3 21 = .ok (.istore_n 0, 1) := by decide +kernel
theorem dJ2_getChars_ba4f3_22 : decode cJ2_getChars_ba4f3 22 = .ok (.iload_n 0, 1) := by decide +kernel
theorem dJ2_getChars_ba4f3_23 : decode cJ2_getChars_ba4f3 23 = .ok (.bipush (-100), 2) := by decide +kernel
theorem dJ2_getChars_ba4f3_25 : decode cJ2_getChars_ba4f3 25 = .ok (.if_icmp .gt 51, 3) := by decide +kernel
theorem dJ2_getChars_ba4f3_28 : decode cJ2_getChars_ba4f3 28 = .ok (.iload_n 0, 1) := by decide +kernel
theorem dJ2_getChars_ba4f3_29 : decode cJ2_getChars_ba4f3 29 = .ok (.bipush 100, 2) := by decide +kernel
theorem dJ2_getChars_ba4f3_31 : decode cJ2_getChars_ba4f3 31 = .ok (.idiv, 1) := by decide +kernel
theorem dJ2_getChars_ba4f3_32 : decode cJ2_getChars_ba4f3 32 = .ok (.istore_n 3, 1) := by decide +kernel
theorem dJ2_getChars_ba4f3_33 : decode cJ2_getChars_ba4f3 33 = .ok (.iload_n 3, 1) := by decide +kernel
theorem dJ2_getChars_ba4f3_34 : decode cJ2_getChars_ba4f3 34 = .ok (.bipush 100, 2) := by decide +kernel
theorem dJ2_getChars_ba4f3_36 : decode cJ2_getChars_ba4f3 36 = .ok (.imul, 1) := by decide +kernel
theorem dJ2_getChars_ba4f3_37 : decode cJ2_getChars_ba4f3 37 = .ok (.iload_n 0, 1) := by decide +kernel
theorem dJ2_getChars_ba4f3_38 : decode cJ2_getChars_ba4f3 38 = .ok (.isub, 1) := by decide +kernel
theorem dJ2_getChars_ba4f3_39 : decode cJ2_getChars_ba4f3 39 = .ok (.istore 4, 2) := by decide +kernel
theorem dJ2_getChars_ba4f3_41 : decode cJ2_getChars_ba4f3 41 = .ok (.iload_n 3, 1) := by decide +kernel
theorem dJ2_getChars_ba4f3_42 : decode cJ2_getChars_ba4f3 42 = .ok (.istore_n 0, 1) := by decide +kernel
theorem dJ2_getChars_ba4f3_43 : decode cJ2_getChars_ba4f3 43 = .ok (.aload_n 2, 1) := by decide +kernel
theorem dJ2_getChars_ba4f3_44 : decode cJ2_getChars_ba4f3 44 = .ok (.iinc 5 (-1), 3) := by decide +kernel
theorem dJ2_getChars_ba4f3_47 : decode cJ2_getChars_ba4f3 47 = .ok (.iload 5, 2) := by decide +kernel
theorem dJ2_getChars_ba4f3_49 : decode cJ2_getChars_ba4f3 49 = .ok (.getstatic 403, 3) := by decide +kernel
theorem dJ2_getChars_ba4f3_52 : decode cJ2_getChars_ba4f3 52 = .ok (.iload 4, 2) := by decide +kernel
theorem dJ2_getChars_ba4f3_54 : decode cJ2_getChars_ba4f3 54 = .ok (.baload, 1) := by decide +kernel
theorem dJ2_getChars_ba4f3_55 : decode cJ2_getChars_ba4f3 55 = .ok (.invokestatic 111, 3) := by decide +kernel
theorem dJ2_getChars_ba4f3_58 : decode cJ2_getChars_ba4f3 58 = .ok (.aload_n 2, 1) := by decide +kernel
theorem dJ2_getChars_ba4f3_59 : decode cJ2_getChars_ba4f3 59 = .ok (.iinc 5 (-1), 3) := by decide +kernel
theorem dJ2_getChars_ba4f3_62 : decode cJ2_getChars_ba4f3 62 = .ok (.iload 5, 2) := by decide +kernel
theorem dJ2_getChars_ba4f3_64 : decode cJ2_getChars_ba4f3 64 = .ok (.getstatic 407, 3) := by decide +kernel
theorem dJ2_getChars_ba4f3_67 : decode cJ2_getChars_ba4f3 67 = .ok (.iload 4, 2) := by decide +kernel
theorem dJ2_getChars_ba4f3_69 : decode cJ2_getChars_ba4f3 69 = .ok (.baload, 1) := by decide +kernel
theorem dJ2_getChars_ba4f3_70 : decode cJ2_getChars_ba4f3 70 = .ok (.invokestatic 111, 3) := by decide +kernel
theorem dJ2_getChars_ba4f3_73 : decode cJ2_getChars_ba4f3 73 = .ok (.goto (-51), 3) := by decide +kernel
theorem dJ2_getChars_ba4f3_76 : decode cJ2_getChars_ba4f3 76 = .ok (.aload_n 2, 1) := by decide +kernel
theorem dJ2_getChars_ba4f3_77 : decode cJ2_getChars_ba4f3 77 = .ok (.iinc 5 (-1), 3) := by decide +kernel
theorem dJ2_getChars_ba4f3_80 : decode cJ2_getChars_ba4f3 80 = .ok (.iload 5, 2) := by decide +kernel
theorem dJ2_getChars_ba4f3_82 : decode cJ2_getChars_ba4f3 82 = .ok (.getstatic 403, 3) := by decide +kernel
theorem dJ2_getChars_ba4f3_85 : decode cJ2_getChars_ba4f3 85 = .ok (.iload_n 0, 1) := by decide +kernel
theorem dJ2_getChars_ba4f3_86 : decode cJ2_getChars_ba4f3 86 = .ok (.ineg, 1) := by decide +kernel
theorem dJ2_getChars_ba4f3_87 : decode cJ2_getChars_ba4f3 87 = .ok (.baload, 1) := by decide +kernel
theorem dJ2_getChars_ba4f3_88 : decode cJ2_getChars_ba4f3 88 = .ok (.invokestatic 111, 3) := by decide +kernel
theorem dJ2_getChars_ba4f3_91 : decode cJ2_getChars_ba4f3 91 = .ok (.iload_n 0, 1) := by decide +kernel
theorem dJ2_getChars_ba4f3_92 : decode cJ2_getChars_ba4f3 92 = .ok (.bipush (-9), 2) := by decide +kernel
theorem dJ2_getChars_ba4f3_94 : decode cJ2_getChars_ba4f3 94 = .ok (.if_icmp .ge 18, 3) := by decide +kernel
theorem dJ2_getChars_ba4f3_97 : decode cJ2_getChars_ba4f3 97 = .ok (.aload_n 2, 1) := by decide +kernel
theorem dJ2_getChars_ba4f3_98 : decode cJ2_getChars_ba4f3 98 = .ok (.iinc 5 (-1), 3) := by decide +kernel
theorem dJ2_getChars_ba4f3_101 : decode cJ2_getChars_ba4f3 101 = .ok (.iload 5, 2) := by decide +kernel
theorem dJ2_getChars_ba4f3_103 : decode cJ2_getChars_ba4f3 103 = .ok (.getstatic 407, 3) := by decide +kernel
theorem dJ2_getChars_ba4f3_106 : decode cJ2_getChars_ba4f3 106 = .ok (.iload_n 0, 1) := by decide +kernel
theorem dJ2_getChars_ba4f3_107 : decode cJ2_getChars_ba4f3 107 = .ok (.ineg, 1) := by decide +kernel
theorem dJ2_getChars_ba4f3_108 : decode cJ2_getChars_ba4f3 108 = .ok (.baload, 1) := by decide +kernel
theorem dJ2_getChars_ba4f3_109 : decode cJ2_getChars_ba4f3 109 = .ok (.invokestatic 111, 3) := by decide +kernel
theorem dJ2_getChars_ba4f3_112 : decode cJ2_getChars_ba4f3 112 = .ok (.iload 6, 2) := by decide +kernel
theorem dJ2_getChars_ba4f3_114 : decode cJ2_getChars_ba4f3 114 = .ok (.ifCond .eq 14, 3) := by decide +kernel
theorem dJ2_getChars_ba4f3_117 : decode cJ2_getChars_ba4f3 117 = .ok (.aload_n 2, 1) := by decide +kernel
theorem dJ2_getChars_ba4f3_118 : decode cJ2_getChars_ba4f3 118 = .ok (.iinc 5 (-1), 3) := by decide +kernel
theorem dJ2_getChars_ba4f3_121 : decode cJ2_getChars_ba4f3 121 = .ok (.iload 5, 2) := by decide +kernel
theorem dJ2_getChars_ba4f3_123 : decode cJ2_getChars_ba4f3 123 = .ok (.bipush 45, 2) := by decide +kernel
theorem dJ2_getChars_ba4f3_125 : decode cJ2_getChars_ba4f3 125 = .ok (.invokestatic 111, 3) := by decide +kernel
theorem dJ2_getChars_ba4f3_128 : decode cJ2_getChars_ba4f3 128 = .ok (.iload 5, 2) := by decide +kernel
theorem dJ2_getChars_ba4f3_130 : decode cJ2_getChars_ba4f3 130 = .ok (.ireturn, 1) := by decide +kernel
theorem dJ2_inflate_0e8fd_0 : decode cJ2_inflate_0e8fd 0 = .ok (.iload_n 3, 1) := by decide +kernel
theorem dJ2_inflate_0e8fd_1 : decode cJ2_inflate_0e8fd 1 = .ok (.iload 4, 2) := by decide +kernel
theorem dJ2_inflate_0e8fd_3 : decode cJ2_inflate_0e8fd 3 = .ok (.aload_n 2, 1) := by decide +kernel
theorem dJ2_inflate_0e8fd_4 : decode cJ2_inflate_0e8fd 4 = .ok (.invokestatic 173, 3) := by decide +kernel
theorem dJ2_inflate_0e8fd_7 : decode cJ2_inflate_0e8fd 7 = .ok (.iconst 0, 1) := by decide +kernel
theorem dJ2_inflate_0e8fd_8 : decode cJ2_inflate_0e8fd 8 = .ok (.istore 5, 2) := by decide +kernel
theorem dJ2_inflate_0e8fd_10 : decode cJ2_inflate_0e8fd 10 = .ok (.iload 5, 2) := by decide +kernel
theorem dJ2_inflate_0e8fd_12 : decode cJ2_inflate_0e8fd 12 = .ok (.iload 4, 2) := by decide +kernel
theorem dJ2_inflate_0e8fd_14 : decode cJ2_inflate_0e8fd 14 = .ok (.if_icmp .ge 27, 3) := by decide +kernel
theorem dJ2_inflate_0e8fd_17 : decode cJ2_inflate_0e8fd 17 = .ok (.aload_n 2, 1) := by decide +kernel
theorem dJ2_inflate_0e8fd_18 : decode cJ2_inflate_0e8fd 18 = .ok (.iload_n 3, 1) := by decide +kernel
theorem dJ2_inflate_0e8fd_19 : decode cJ2_inflate_0e8fd 19 = .ok (.iinc 3 1, 3) := by decide +kernel
theorem dJ2_inflate_0e8fd_22 : decode cJ2_inflate_0e8fd 22 = .ok (.aload_n 0, 1) := by decide +kernel
theorem dJ2_inflate_0e8fd_23 : decode cJ2_inflate_0e8fd 23 = .ok (.iload_n 1, 1) := by decide +kernel
theorem dJ2_inflate_0e8fd_24 : decode cJ2_inflate_0e8fd 24 = .ok (.iinc 1 1, 3) := by decide +kernel
theorem dJ2_inflate_0e8fd_27 : decode cJ2_inflate_0e8fd 27 = .ok (.baload, 1) := by decide +kernel
theorem dJ2_inflate_0e8fd_28 : decode cJ2_inflate_0e8fd 28 = .ok (.sipush 255, 3) := by decide +kernel
theorem dJ2_inflate_0e8fd_31 : decode cJ2_inflate_0e8fd 31 = .ok (.iand, 1) := by decide +kernel
theorem dJ2_inflate_0e8fd_32 : decode cJ2_inflate_0e8fd 32 = .ok (.invokestatic 111, 3) := by decide +kernel
theorem dJ2_inflate_0e8fd_35 : decode cJ2_inflate_0e8fd 35 = .ok (.iinc 5 1, 3) := by decide +kernel
theorem dJ2_inflate_0e8fd_38 : decode cJ2_inflate_0e8fd 38 = .ok (.goto (-28), 3) := by decide +kernel
theorem dJ2_inflate_0e8fd_41 : decode cJ2_inflate_0e8fd 41 = .ok (.return_, 1) := by decide +kernel
theorem dJ2_length_9d52b_0 : decode cJ2_length_9d52b 0 = .ok (.aload_n 0, 1) := by decide +kernel
theorem dJ2_length_9d52b_1 : decode cJ2_length_9d52b 1 = .ok (.arraylength, 1) := by decide +kernel
theorem dJ2_length_9d52b_2 : decode cJ2_length_9d52b 2 = .ok (.iconst 1, 1) := by decide +kernel
theorem dJ2_length_9d52b_3 : decode cJ2_length_9d52b 3 = .ok (.ishr, 1) := by decide +kernel
theorem dJ2_length_9d52b_4 : decode cJ2_length_9d52b 4 = .ok (.ireturn, 1) := by decide +kernel
theorem dJ2_newBytesFor_77867_0 : decode cJ2_newBytesFor_77867 0 = .ok (.iload_n 0, 1) := by decide +kernel
theorem dJ2_newBytesFor_77867_1 : decode cJ2_newBytesFor_77867 1 = .ok (.invokestatic 11, 3) := by decide +kernel
theorem dJ2_newBytesFor_77867_4 : decode cJ2_newBytesFor_77867 4 = .ok (.newarray .byte, 2) := by decide +kernel
theorem dJ2_newBytesFor_77867_6 : decode cJ2_newBytesFor_77867 6 = .ok (.areturn, 1) := by decide +kernel
theorem dJ2_newBytesLength_0f7a4_0 : decode cJ2_newBytesLength_0f7a4 0 = .ok (.iload_n 0, 1) := by decide +kernel
theorem dJ2_newBytesLength_0f7a4_1 : decode cJ2_newBytesLength_0f7a4 1 = .ok (.ifCond .ge 11, 3) := by decide +kernel
theorem dJ2_newBytesLength_0f7a4_4 : decode cJ2_newBytesLength_0f7a4 4 = .ok (.new 17, 3) := by decide +kernel
theorem dJ2_newBytesLength_0f7a4_7 : decode cJ2_newBytesLength_0f7a4 7 = .ok (.dup, 1) := by decide +kernel
theorem dJ2_newBytesLength_0f7a4_8 : decode cJ2_newBytesLength_0f7a4 8 = .ok (.invokespecial 19, 3) := by decide +kernel
theorem dJ2_newBytesLength_0f7a4_11 : decode cJ2_newBytesLength_0f7a4 11 = .ok (.athrow, 1) := by decide +kernel
theorem dJ2_newBytesLength_0f7a4_12 : decode cJ2_newBytesLength_0f7a4 12 = .ok (.iload_n 0, 1) := by decide +kernel
theorem dJ2_newBytesLength_0f7a4_13 : decode cJ2_newBytesLength_0f7a4 13 = .ok (.ldc 20, 2) := by decide +kernel
theorem dJ2_newBytesLength_0f7a4_15 : decode cJ2_newBytesLength_0f7a4 15 = .ok (.if_icmp .lt 40, 3) := by decide +kernel
theorem dJ2_newBytesLength_0f7a4_18 : decode cJ2_newBytesLength_0f7a4 18 = .ok (.new 21, 3) := by decide +kernel
theorem dJ2_newBytesLength_0f7a4_21 : decode cJ2_newBytesLength_0f7a4 21 = .ok (.dup, 1) := by decide +kernel
theorem dJ2_newBytesLength_0f7a4_22 : decode cJ2_newBytesLength_0f7a4 22 = .ok (.new 23, 3) := by decide +kernel
theorem dJ2_newBytesLength_0f7a4_25 : decode cJ2_newBytesLength_0f7a4 25 = .ok (.dup, 1) := by decide +kernel
theorem dJ2_newBytesLength_0f7a4_26 : decode cJ2_newBytesLength_0f7a4 26 = .ok (.invokespecial 25, 3) := by decide +kernel
theorem dJ2_newBytesLength_0f7a4_29 : decode cJ2_newBytesLength_0f7a4 29 = .ok (.ldc 26, 2) := by decide +kernel
theorem dJ2_newBytesLength_0f7a4_31 : decode cJ2_newBytesLength_0f7a4 31 = .ok (.invokevirtual 28, 3) := by decide +kernel
theorem dJ2_newBytesLength_0f7a4_34 : decode cJ2_newBytesLength_0f7a4 34 = .ok (.iload_n 0, 1) := by decide +kernel
theorem dJ2_newBytesLength_0f7a4_35 : decode cJ2_newBytesLength_0f7a4 35 = .ok (.invokevirtual 32, 3) := by decide +kernel
theorem dJ2_newBytesLength_0f7a4_38 : decode cJ2_newBytesLength_0f7a4 38 = .ok (.ldc 35, 2) := by decide +kernel
theorem dJ2_newBytesLength_0f7a4_40 : decode cJ2_newBytesLength_0f7a4 40 = .ok (.invokevirtual 28, 3) := by decide +kernel
theorem dJ2_newBytesLength_0f7a4_43 : decode cJ2_newBytesLength_0f7a4 43 = .ok (.ldc 20, 2) := by decide +kernel
theorem dJ2_newBytesLength_0f7a4_45 : decode cJ2_newBytesLength_0f7a4 45 = .ok (.invokevirtual 32, 3) := by decide +kernel
theorem dJ2_newBytesLength_0f7a4_48 : decode cJ2_newBytesLength_0f7a4 48 = .ok (.invokevirtual 37, 3) := by decide +kernel
theorem dJ2_newBytesLength_0f7a4_51 : decode cJ2_newBytesLength_0f7a4 51 = .ok (.invokespecial 41, 3) := by decide +kernel
theorem dJ2_newBytesLength_0f7a4_54 : decode cJ2_newBytesLength_0f7a4 54 = .ok (.athrow, 1) := by decide +kernel
theorem dJ2_newBytesLength_0f7a4_55 : decode cJ2_newBytesLength_0f7a4 55 = .ok (.iload_n 0, 1) := by decide +kernel
theorem dJ2_newBytesLength_0f7a4_56 : decode cJ2_newBytesLength_0f7a4 56 = .ok (.iconst 1, 1) := by decide +kernel
theorem dJ2_newBytesLength_0f7a4_57 : decode cJ2_newBytesLength_0f7a4 57 = .ok (.ishl, 1) := by decide +kernel
theorem dJ2_newBytesLength_0f7a4_58 : decode cJ2_newBytesLength_0f7a4 58 = .ok (.ireturn, 1) := by decide +kernel
theorem dJ2_putCharSB_b72d1_0 : decode cJ2_putCharSB_b72d1 0 = .ok (.iload_n 1, 1) := by decide +kernel
theorem dJ2_putCharSB_b72d1_1 : decode cJ2_putCharSB_b72d1 1 = .ok (.aload_n 0, 1) := by decide +kernel
theorem dJ2_putCharSB_b72d1_2 : decode cJ2_putCharSB_b72d1 2 = .ok (.invokestatic 67, 3) := by decide +kernel
theorem dJ2_putCharSB_b72d1_5 : decode cJ2_putCharSB_b72d1 5 = .ok (.aload_n 0, 1) := by decide +kernel
theorem dJ2_putCharSB_b72d1_6 : decode cJ2_putCharSB_b72d1 6 = .ok (.iload_n 1, 1) := by decide +kernel
theorem dJ2_putCharSB_b72d1_7 : decode cJ2_putCharSB_b72d1 7 = .ok (.iload_n 2, 1) := by decide +kernel
theorem dJ2_putCharSB_b72d1_8 : decode cJ2_putCharSB_b72d1 8 = .ok (.invokestatic 111, 3) := by decide +kernel
theorem dJ2_putCharSB_b72d1_11 : decode cJ2_putCharSB_b72d1 11 = .ok (.return_, 1) := by decide +kernel
theorem dJ2_putChar_b72d1_0 : decode cJ2_putChar_b72d1 0 = .ok (.getstatic 44, 3) := by decide +kernel
theorem dJ2_putChar_b72d1_3 : decode cJ2_putChar_b72d1 3 = .ok (.ifCond .ne 25, 3) := by decide +kernel
theorem dJ2_putChar_b72d1_6 : decode cJ2_putChar_b72d1 6 = .ok (.iload_n 1, 1) := by decide +kernel
theorem dJ2_putChar_b72d1_7 : decode cJ2_putChar_b72d1 7 = .ok (.ifCond .lt 11, 3) := by decide +kernel
theorem dJ2_putChar_b72d1_10 : decode cJ2_putChar_b72d1 10 = .ok (.iload_n 1, 1) := by decide +kernel
theorem dJ2_putChar_b72d1_11 : decode cJ2_putChar_b72d1 11 = .ok (.aload_n 0, 1) := by decide +kernel
theorem dJ2_putChar_b72d1_12 : decode cJ2_putChar_b72d1 12 = .ok (.invokestatic 48, 3) := by decide +kernel
theorem dJ2_putChar_b72d1_15 : decode cJ2_putChar_b72d1 15 = .ok (.if_icmp .lt 13, 3) := by decide +kernel
theorem dJ2_putChar_b72d1_18 : decode cJ2_putChar_b72d1 18 = .ok (.new 52, 3) := by decide +kernel
theorem dJ2_putChar_b72d1_21 : decode cJ2_putChar_b72d1 21 = .ok (.dup, 1) := by decide +kernel
theorem dJ2_putChar_b72d1_22 : decode cJ2_putChar_b72d1 22 = .ok (.ldc 54, 2) := by decide +kernel
theorem dJ2_putChar_b72d1_24 : decode cJ2_putChar_b72d1 24 = .ok (.invokespecial 56, 3) := by decide +kernel
theorem dJ2_putChar_b72d1_27 : decode cJ2_putChar_b72d1 27 = .ok (.athrow, 1) := by decide +kernel
theorem dJ2_putChar_b72d1_28 : decode cJ2_putChar_b72d1 28 = .ok (.iload_n 1, 1) := by decide +kernel
theorem dJ2_putChar_b72d1_29 : decode cJ2_putChar_b72d1 29 = .ok (.iconst 1, 1) := by decide +kernel
theorem dJ2_putChar_b72d1_30 : decode cJ2_putChar_b72d1 30 = .ok (.ishl, 1) := by decide +kernel
theorem dJ2_putChar_b72d1_31 : decode cJ2_putChar_b72d1 31 = .ok (.istore_n 1, 1) := by decide +kernel
theorem dJ2_putChar_b72d1_32 : decode cJ2_putChar_b72d1 32 = .ok (.aload_n 0, 1) := by decide +kernel
theorem dJ2_putChar_b72d1_33 : decode cJ2_putChar_b72d1 33 = .ok (.iload_n 1, 1) := by decide +kernel
theorem dJ2_putChar_b72d1_34 : decode cJ2_putChar_b72d1 34 = .ok (.iinc 1 1, 3) := by decide +kernel
theorem dJ2_putChar_b72d1_37 : decode cJ2_putChar_b72d1 37 = .ok (.iload_n 2, 1) := by decide +kernel
theorem dJ2_putChar_b72d1_38 : decode cJ2_putChar_b72d1 38 = .ok (.getstatic 59, 3) := by decide +kernel
theorem dJ2_putChar_b72d1_41 : decode cJ2_putChar_b72d1 41 = .ok (.ishr, 1) := by decide +kernel
theorem dJ2_putChar_b72d1_42 : decode cJ2_putChar_b72d1 42 = .ok (.i2b, 1) := by decide +kernel
theorem dJ2_putChar_b72d1_43 : decode cJ2_putChar_b72d1 43 = .ok (.bastore, 1) := by decide +kernel
theorem dJ2_putChar_b72d1_44 : decode cJ2_putChar_b72d1 44 = .ok (.aload_n 0, 1) := by decide +kernel
theorem dJ2_putChar_b72d1_45 : decode cJ2_putChar_b72d1 45 = .ok (.iload_n 1, 1) := by decide +kernel
theorem dJ2_putChar_b72d1_46 : decode cJ2_putChar_b72d1 46 = .ok (.iload_n 2, 1) := by decide +kernel
theorem dJ2_putChar_b72d1_47 : decode cJ2_putChar_b72d1 47 = .ok (.getstatic 63, 3) := by decide +kernel
theorem dJ2_putChar_b72d1_50 : decode cJ2_putChar_b72d1 50 = .ok (.ishr, 1) := by decide +kernel
theorem dJ2_putChar_b72d1_51 : decode cJ2_putChar_b72d1 51 = .ok (.i2b, 1) := by decide +kernel
theorem dJ2_putChar_b72d1_52 : decode cJ2_putChar_b72d1 52 = .ok (.bastore, 1) := by decide +kernel
theorem dJ2_putChar_b72d1_53 : decode cJ2_putChar_b72d1 53 = .ok (.return_, 1) := by decide +kernel
theorem dJ2_putCharsAt_cd4e5_0 : decode cJ2_putCharsAt_cd4e5 0 = .ok (.iload_n 1, 1) := by decide +kernel
theorem dJ2_putCharsAt_cd4e5_1 : decode cJ2_putCharsAt_cd4e5 1 = .ok (.iconst 4, 1) := by decide +kernel
theorem dJ2_putCharsAt_cd4e5_2 : decode cJ2_putCharsAt_cd4e5 2 = .ok (.iadd, 1) := by decide +kernel
theorem dJ2_putCharsAt_cd4e5_3 : decode cJ2_putCharsAt_cd4e5 3 = .ok (.istore 6, 2) := by decide +kernel
theorem dJ2_putCharsAt_cd4e5_5 : decode cJ2_putCharsAt_cd4e5 5 = .ok (.iload_n 1, 1) := by decide +kernel
theorem dJ2_putCharsAt_cd4e5_6 : decode cJ2_putCharsAt_cd4e5 6 = .ok (.iload 6, 2) := by decide +kernel
theorem dJ2_putCharsAt_cd4e5_8 : decode cJ2_putCharsAt_cd4e5 8 = .ok (.aload_n 0, 1) := by decide +kernel
theorem dJ2_putCharsAt_cd4e5_9 : decode cJ2_putCharsAt_cd4e5 9 = .ok (.invokestatic 96, 3) := by decide +kernel
theorem dJ2_putCharsAt_cd4e5_12 : decode cJ2_putCharsAt_cd4e5 12 = .ok (.aload_n 0, 1) := by decide +kernel
theorem dJ2_putCharsAt_cd4e5_13 : decode cJ2_putCharsAt_cd4e5 13 = .ok (.iload_n 1, 1) := by decide +kernel
theorem dJ2_putCharsAt_cd4e5_14 : decode cJ2_putCharsAt_cd4e5 14 = .ok (.iinc 1 1, 3) := by decide +kernel
theorem dJ2_putCharsAt_cd4e5_17 : decode cJ2_putCharsAt_cd4e5 17 = .ok (.iload_n 2, 1) := by decide +kernel
theorem dJ2_putCharsAt_cd4e5_18 : decode cJ2_putCharsAt_cd4e5 18 = .ok (.invokestatic 111, 3) := by decide +kernel
theorem dJ2_putCharsAt_cd4e5_21 : decode cJ2_putCharsAt_cd4e5 21 = .ok (.aload_n 0, 1) := by decide +kernel
theorem dJ2_putCharsAt_cd4e5_22 : decode cJ2_putCharsAt_cd4e5 22 = .ok (.iload_n 1, 1) := by decide +kernel
theorem dJ2_putCharsAt_cd4e5_23 : decode cJ2_putCharsAt_cd4e5 23 = .ok (.iinc 1 1, 3) := by decide +kernel
theorem dJ2_putCharsAt_cd4e5_26 : decode cJ2_putCharsAt_cd4e5 26 = .ok (.iload_n 3, 1) := by decide +kernel
theorem dJ2_putCharsAt_cd4e5_27 : decode cJ2_putCharsAt_cd4e5 27 = .ok (.invokestatic 111, 3) := by decide +kernel
theorem dJ2_putCharsAt_cd4e5_30 : decode cJ2_putCharsAt_cd4e5 30 = .ok (.aload_n 0, 1) := by decide +kernel
theorem dJ2_putCharsAt_cd4e5_31 : decode cJ2_putCharsAt_cd4e5 31 = .ok (.iload_n 1, 1) := by decide +kernel
theorem dJ2_putCharsAt_cd4e5_32 : decode cJ2_putCharsAt_cd4e5 32 = .ok (.iinc 1 1, 3) := by decide +kernel
theorem dJ2_putCharsAt_cd4e5_35 : decode cJ2_putCharsAt_cd4e5 35 = .ok (.iload 4, 2) := by decide +kernel
theorem dJ2_putCharsAt_cd4e5_37 : decode cJ2_putCharsAt_cd4e5 37 = .ok (.invokestatic 111, 3) := by decide +kernel
theorem dJ2_putCharsAt_cd4e5_40 : decode cJ2_putCharsAt_cd4e5 40 = .ok (.aload_n 0, 1) := by decide +kernel
theorem dJ2_putCharsAt_cd4e5_41 : decode cJ2_putCharsAt_cd4e5 41 = .ok (.iload_n 1, 1) := by decide +kernel
theorem dJ2_putCharsAt_cd4e5_42 : decode cJ2_putCharsAt_cd4e5 42 = .ok (.iinc 1 1, 3) := by decide +kernel
theorem dJ2_putCharsAt_cd4e5_45 : decode cJ2_putCharsAt_cd4e5 45 = .ok (.iload 5, 2) := by decide +kernel
theorem dJ2_putCharsAt_cd4e5_47 : decode cJ2_putCharsAt_cd4e5 47 = .ok (.invokestatic 111, 3) := by decide +kernel
theorem dJ2_putCharsAt_cd4e5_50 : decode cJ2_putCharsAt_cd4e5 50 = .ok (.getstatic 44, 3) := by decide +kernel
theorem dJ2_putCharsAt_cd4e5_53 : decode cJ2_putCharsAt_cd4e5 53 = .ok (.ifCond .ne 17, 3) := by decide +kernel
theorem dJ2_putCharsAt_cd4e5_56 : decode cJ2_putCharsAt_cd4e5 56 = .ok (.iload_n 1, 1) := by decide +kernel
theorem dJ2_putCharsAt_cd4e5_57 : decode cJ2_putCharsAt_cd4e5 57 = .ok (.iload 6, 2) := by decide +kernel
theorem dJ2_putCharsAt_cd4e5_59 : decode cJ2_putCharsAt_cd4e5 59 = .ok (.if_icmp .eq 11, 3) := by decide +kernel
theorem dJ2_putCharsAt_cd4e5_62 : decode cJ2_putCharsAt_cd4e5 62 = .ok (.new 52, 3) := by decide +kernel
theorem dJ2_putCharsAt_cd4e5_65 : decode cJ2_putCharsAt_cd4e5 65 = .ok (.dup, 1) := by decide +kernel
theorem dJ2_putCharsAt_cd4e5_66 : decode cJ2_putCharsAt_cd4e5 66 = .ok (.invokespecial 66, 3) := by decide +kernel
theorem dJ2_putCharsAt_cd4e5_69 : decode cJ2_putCharsAt_cd4e5 69 = .ok (.athrow, 1) := by decide +kernel
theorem dJ2_putCharsAt_cd4e5_70 : decode cJ2_putCharsAt_cd4e5 70 = .ok (.iload 6, 2) := by decide +kernel
theorem dJ2_putCharsAt_cd4e5_72 : decode cJ2_putCharsAt_cd4e5 72 = .ok (.ireturn, 1) := by decide +kernel
theorem dJ3_checkFromIndexSize_8c36e_0 : decode cJ3_checkFromIndexSize_8c36e 0 = .ok (.iload_n 2, 1) := by decide +kernel
theorem dJ3_checkFromIndexSize_8c36e_1 : decode cJ3_checkFromIndexSize_8c36e 1 = .ok (.iload_n 0, 1) := by decide +kernel
theorem dJ3_checkFromIndexSize_8c36e_2 : decode cJ3_checkFromIndexSize_8c36e 2 = .ok (.ior, 1) := by decide +kernel
theorem dJ3_checkFromIndexSize_8c36e_3 : decode cJ3_checkFromIndexSize_8c36e 3 = .ok (.iload_n 1, 1) := by decide +kernel
theorem dJ3_checkFromIndexSize_8c36e_4 : decode cJ3_checkFromIndexSize_8c36e 4 = .ok (.ior, 1) := by decide +kernel
theorem dJ3_checkFromIndexSize_8c36e_5 : decode cJ3_checkFromIndexSize_8c36e 5 = .ok (.ifCond .lt 10, 3) := by decide +kernel
theorem dJ3_checkFromIndexSize_8c36e_8 : decode cJ3_checkFromIndexSize_8c36e 8 = .ok (.iload_n 1, 1) := by decide +kernel
theorem dJ3_checkFromIndexSize_8c36e_9 : decode cJ3_checkFromIndexSize_8c36e 9 = .ok (.iload_n 2, 1) := by decide +kernel
theorem dJ3_checkFromIndexSize_8c36e_10 : decode cJ3_checkFromIndexSize_8c36e 10 = .ok (.iload_n 0, 1) := by decide +kernel
theorem dJ3_checkFromIndexSize_8c36e_11 : decode cJ3_checkFromIndexSize_8c36e 11 = .ok (.isub, 1) := by decide +kernel
theorem dJ3_checkFromIndexSize_8c36e_12 : decode cJ3_checkFromIndexSize_8c36e 12 = .ok (.if_icmp .le 11, 3) := by decide +kernel
theorem dJ3_checkFromIndexSize_8c36e_15 : decode cJ3_checkFromIndexSize_8c36e 15 = .ok (.aload_n 3, 1) := by decide +kernel
theorem dJ3_checkFromIndexSize_8c36e_16 : decode cJ3_checkFromIndexSize_8c36e 16 = .ok (.iload_n 0, 1) := by decide +kernel
theorem dJ3_checkFromIndexSize_8c36e_17 : decode cJ3_checkFromIndexSize_8c36e 17 = .ok (.iload_n 1, 1) := by decide +kernel
theorem dJ3_checkFromIndexSize_8c36e_18 : decode cJ3_checkFromIndexSize_8c36e 18 = .ok (.iload_n 2, 1) := by decide +kernel
theorem dJ3_checkFromIndexSize_8c36e_19 : decode cJ3_checkFromIndexSize_8c36e 19 = .ok (.invokestatic 103, 3) := by decide +kernel
theorem dJ3_checkFromIndexSize_8c36e_22 : decode cJ3_checkFromIndexSize_8c36e 22 = .ok (.athrow, 1) := by decide +kernel
theorem dJ3_checkFromIndexSize_8c36e_23 : decode cJ3_checkFromIndexSize_8c36e 23 = .ok (.iload_n 0, 1) := by decide +kernel
theorem dJ3_checkFromIndexSize_8c36e_24 : decode cJ3_checkFromIndexSize_8c36e 24 = .ok (.ireturn, 1) := by decide +kernel
theorem dJ3_checkFromToIndex_8c36e_0 : decode cJ3_checkFromToIndex_8c36e 0 = .ok (.iload_n 0, 1) := by decide +kernel
theorem dJ3_checkFromToIndex_8c36e_1 : decode cJ3_checkFromToIndex_8c36e 1 = .ok (.ifCond .lt 13, 3) := by decide +kernel
theorem dJ3_checkFromToIndex_8c36e_4 : decode cJ3_checkFromToIndex_8c36e 4 = .ok (.iload_n 0, 1) := by decide +kernel
theorem dJ3_checkFromToIndex_8c36e_5 : decode cJ3_checkFromToIndex_8c36e 5 = .ok (.iload_n 1, 1) := by decide +kernel
theorem dJ3_checkFromToIndex_8c36e_6 : decode cJ3_checkFromToIndex_8c36e 6 = .ok (.if_icmp .gt 8, 3) := by decide +kernel
theorem dJ3_checkFromToIndex_8c36e_9 : decode cJ3_checkFromToIndex_8c36e 9 = .ok (.iload_n 1, 1) := by decide +kernel
theorem dJ3_checkFromToIndex_8c36e_10 : decode cJ3_checkFromToIndex_8c36e 10 = .ok (.iload_n 2, 1) := by decide +kernel
theorem dJ3_checkFromToIndex_8c36e_11 : decode cJ3_checkFromToIndex_8c36e 11 = .ok (.if_icmp .le 11, 3) := by decide +kernel
theorem dJ3_checkFromToIndex_8c36e_14 : decode cJ3_checkFromToIndex_8c36e 14 = .ok (.aload_n 3, 1) := by decide +kernel
theorem dJ3_checkFromToIndex_8c36e_15 : decode cJ3_checkFromToIndex_8c36e 15 = .ok (.iload_n 0, 1) := by decide +kernel
theorem dJ3_checkFromToIndex_8c36e_16 : decode cJ3_checkFromToIndex_8c36e 16 = .ok (.iload_n 1, 1) := by decide +kernel
theorem dJ3_checkFromToIndex_8c36e_17 : decode cJ3_checkFromToIndex_8c36e 17 = .ok (.iload_n 2, 1) := by decide +kernel
theorem dJ3_checkFromToIndex_8c36e_18 : decode cJ3_checkFromToIndex_8c36e 18 = .ok (.invokestatic 99, 3) := by decide +kernel
theorem dJ3_checkFromToIndex_8c36e_21 : decode cJ3_checkFromToIndex_8c36e 21 = .ok (.athrow, 1) := by decide +kernel
theorem dJ3_checkFromToIndex_8c36e_22 : decode cJ3_checkFromToIndex_8c36e 22 = .ok (.iload_n 0, 1) := by decide +kernel
theorem dJ3_checkFromToIndex_8c36e_23 : decode cJ3_checkFromToIndex_8c36e 23 = .ok (.ireturn, 1) := by decide +kernel
theorem dJ3_checkIndex_8e157_0 : decode cJ3_checkIndex_8e157 0 = .ok (.iload_n 0, 1) := by decide +kernel
theorem dJ3_checkIndex_8e157_1 : decode cJ3_checkIndex_8e157 1 = .ok (.ifCond .lt 8, 3) := by decide +kernel
theorem dJ3_checkIndex_8e157_4 : decode cJ3_checkIndex_8e157 4 = .ok (.iload_n 0, 1) := by decide +kernel
theorem dJ3_checkIndex_8e157_5 : decode cJ3_checkIndex_8e157 5 = .ok (.iload_n 1, 1) := by decide +kernel
theorem dJ3_checkIndex_8e157_6 : decode cJ3_checkIndex_8e157 6 = .ok (.if_icmp .lt 10, 3) := by decide +kernel
theorem dJ3_checkIndex_8e157_9 : decode cJ3_checkIndex_8e157 9 = .ok (.aload_n 2, 1) := by decide +kernel
theorem dJ3_checkIndex_8e157_10 : decode cJ3_checkIndex_8e157 10 = .ok (.iload_n 0, 1) := by decide +kernel
theorem dJ3_checkIndex_8e157_11 : decode cJ3_checkIndex_8e157 11 = .ok (.iload_n 1, 1) := by decide +kernel
theorem dJ3_checkIndex_8e157_12 : decode cJ3_checkIndex_8e157 12 = .ok (.invokestatic 95, 3) := by decide +kernel
theorem dJ3_checkIndex_8e157_15 : decode cJ3_checkIndex_8e157 15 = .ok (.athrow, 1) := by decide +kernel
theorem dJ3_checkIndex_8e157_16 : decode cJ3_checkIndex_8e157 16 = .ok (.iload_n 0, 1) := by decide +kernel
theorem dJ3_checkIndex_8e157_17 : decode cJ3_checkIndex_8e157 17 = .ok (.ireturn, 1) := by decide +kernel
theorem dJ4_append_15ec4_0 : decode cJ4_append_15ec4 0 = .ok (.aload_n 0, 1) := by decide +kernel
theorem dJ4_append_15ec4_1 : decode cJ4_append_15ec4 1 = .ok (.aload_n 1, 1) := by decide +kernel
theorem dJ4_append_15ec4_2 : decode cJ4_append_15ec4 2 = .ok (.invokespecial 29, 3) := by decide +kernel
theorem dJ4_append_15ec4_5 : decode cJ4_append_15ec4 5 = .ok (.pop, 1) := by decide +kernel
theorem dJ4_append_15ec4_6 : decode cJ4_append_15ec4 6 = .ok (.aload_n 0, 1) := by decide +kernel
theorem dJ4_append_15ec4_7 : decode cJ4_append_15ec4 7 = .ok (.areturn, 1) := by decide +kernel
theorem dJ4_append_bf812_0 : decode cJ4_append_bf812 0 = .ok (.aload_n 0, 1) := by decide +kernel
theorem dJ4_append_bf812_1 : decode cJ4_append_bf812 1 = .ok (.iload_n 1, 1) := by decide +kernel
theorem dJ4_append_bf812_2 : decode cJ4_append_bf812 2 = .ok (.invokespecial 53, 3) := by decide +kernel
theorem dJ4_append_bf812_5 : decode cJ4_append_bf812 5 = .ok (.pop, 1) := by decide +kernel
theorem dJ4_append_bf812_6 : decode cJ4_append_bf812 6 = .ok (.aload_n 0, 1) := by decide +kernel
theorem dJ4_append_bf812_7 : decode cJ4_append_bf812 7 = .ok (.areturn, 1) := by decide +kernel
theorem dJ4_append_cf468_0 : decode cJ4_append_cf468 0 = .ok (.aload_n 0, 1) := by decide +kernel
theorem dJ4_append_cf468_1 : decode cJ4_append_cf468 1 = .ok (.iload_n 1, 1) := by decide +kernel
theorem dJ4_append_cf468_2 : decode cJ4_append_cf468 2 = .ok (.invokespecial 50, 3) := by decide +kernel
theorem dJ4_append_cf468_5 : decode cJ4_append_cf468 5 = .ok (.pop, 1) := by decide +kernel
theorem dJ4_append_cf468_6 : decode cJ4_append_cf468 6 = .ok (.aload_n 0, 1) := by decide +kernel
theorem dJ4_append_cf468_7 : decode cJ4_append_cf468 7 = .ok (.areturn, 1) := by decide +kernel
theorem dJ4_init_da8c8_0 : decode cJ4_init_da8c8 0 = .ok (.aload_n 0, 1) := by decide +kernel
theorem dJ4_init_da8c8_1 : decode cJ4_init_da8c8 1 = .ok (.bipush 16, 2) := by decide +kernel
theorem dJ4_init_da8c8_3 : decode cJ4_init_da8c8 3 = .ok (.invokespecial 1, 3) := by decide +kernel
theorem dJ4_init_da8c8_6 : decode cJ4_init_da8c8 6 = .ok (.return_, 1) := by decide +kernel
theorem dJ4_length_8abf5_0 : decode cJ4_length_8abf5 0 = .ok (.aload_n 0, 1) := by decide +kernel
theorem dJ4_length_8abf5_1 : decode cJ4_length_8abf5 1 = .ok (.invokespecial 343, 3) := by decide +kernel
theorem dJ4_length_8abf5_4 : decode cJ4_length_8abf5 4 = .ok (.ireturn, 1) := by decide +kernel
theorem dJ4_toString_0e30d_0 : decode cJ4_toString_0e30d 0 = .ok (.new 18, 3) := by decide +kernel
theorem dJ4_toString_0e30d_3 : decode cJ4_toString_0e30d 3 = .ok (.dup, 1) := by decide +kernel
theorem dJ4_toString_0e30d_4 : decode cJ4_toString_0e30d 4 = .ok (.aload_n 0, 1) := by decide +kernel
theorem dJ4_toString_0e30d_5 : decode cJ4_toString_0e30d 5 = .ok (.invokespecial 137, 3) := by decide +kernel
theorem dJ4_toString_0e30d_8 : decode cJ4_toString_0e30d 8 = .ok (.areturn, 1) := by decide +kernel
theorem dJ5_appendNull_278bc_0 : decode cJ5_appendNull_278bc 0 = .ok (.aload_n 0, 1) := by decide +kernel
theorem dJ5_appendNull_278bc_1 : decode cJ5_appendNull_278bc 1 = .ok (.aload_n 0, 1) := by decide +kernel
theorem dJ5_appendNull_278bc_2 : decode cJ5_appendNull_278bc 2 = .ok (.getfield 79, 3) := by decide +kernel
theorem dJ5_appendNull_278bc_5 : decode cJ5_appendNull_278bc 5 = .ok (.iconst 4, 1) := by decide +kernel
theorem dJ5_appendNull_278bc_6 : decode cJ5_appendNull_278bc 6 = .ok (.iadd, 1) := by decide +kernel
theorem dJ5_appendNull_278bc_7 : decode cJ5_appendNull_278bc 7 = .ok (.invokevirtual 100, 3) := by decide +kernel
theorem dJ5_appendNull_278bc_10 : decode cJ5_appendNull_278bc 10 = .ok (.aload_n 0, 1) := by decide +kernel
theorem dJ5_appendNull_278bc_11 : decode cJ5_appendNull_278bc 11 = .ok (.getfield 79, 3) := by decide +kernel
theorem dJ5_appendNull_278bc_14 : decode cJ5_appendNull_278bc 14 = .ok (.istore_n 1, 1) := by decide +kernel
theorem dJ5_appendNull_278bc_15 : decode cJ5_appendNull_278bc 15 = .ok (.aload_n 0, 1) := by decide +kernel
theorem dJ5_appendNull_278bc_16 : decode cJ5_appendNull_278bc 16 = .ok (.getfield 15, 3) := by decide +kernel
theorem dJ5_appendNull_278bc_19 : decode cJ5_appendNull_278bc 19 = .ok (.astore_n 2, 1) := by decide +kernel
theorem dJ5_appendNull_278bc_20 : decode cJ5_appendNull_278bc 20 = .ok (.aload_n 0, 1) := by decide +kernel
theorem dJ5_appendNull_278bc_21 : decode cJ5_appendNull_278bc 21 = .ok (.invokevirtual 83, 3) := by decide +kernel
theorem dJ5_appendNull_278bc_24 : decode cJ5_appendNull_278bc 24 = .ok (.ifCond .eq 38, 3) := by decide +kernel
theorem dJ5_appendNull_278bc_27 : decode cJ5_appendNull_278bc 27 = .ok (.aload_n 2, 1) := by decide +kernel
theorem dJ5_appendNull_278bc_28 : decode cJ5_appendNull_278bc 28 = .ok (.iload_n 1, 1) := by decide +kernel
theorem dJ5_appendNull_278bc_29 : decode cJ5_appendNull_278bc 29 = .ok (.iinc 1 1, 3) := by decide +kernel
theorem dJ5_appendNull_278bc_32 : decode cJ5_appendNull_278bc 32 = .ok (.bipush 110, 2) := by decide +kernel
theorem dJ5_appendNull_278bc_34 : decode cJ5_appendNull_278bc 34 = .ok (.bastore, 1) := by decide +kernel
theorem dJ5_appendNull_278bc_35 : decode cJ5_appendNull_278bc 35 = .ok (.aload_n 2, 1) := by decide +kernel
theorem dJ5_appendNull_278bc_36 : decode cJ5_appendNull_278bc 36 = .ok (.iload_n 1, 1) := by decide +kernel
theorem dJ5_appendNull_278bc_37 : decode cJ5_appendNull_278bc 37 = .ok (.iinc 1 1, 3) := by decide +kernel
theorem dJ5_appendNull_278bc_40 : decode cJ5_appendNull_278bc 40 = .ok (.bipush 117, 2) := by decide +kernel
theorem dJ5_appendNull_278bc_42 : decode cJ5_appendNull_278bc 42 = .ok (.bastore, 1) := by decide +kernel
theorem dJ5_appendNull_278bc_43 : decode cJ5_appendNull_278bc 43 = .ok (.aload_n 2, 1) := by decide +kernel
theorem dJ5_appendNull_278bc_44 : decode cJ5_appendNull_278bc 44 = .ok (.iload_n 1, 1) := by decide +kernel
theorem dJ5_appendNull_278bc_45 : decode cJ5_appendNull_278bc 45 = .ok (.iinc 1 1, 3) := by decide +kernel
theorem dJ5_appendNull_278bc_48 : decode cJ5_appendNull_278bc 48 = .ok (.bipush 108, 2) := by decide +kernel
theorem dJ5_appendNull_278bc_50 : decode cJ5_appendNull_278bc 50 = .ok (.bastore, 1) := by decide +kernel
theorem dJ5_appendNull_278bc_51 : decode cJ5_appendNull_278bc 51 = .ok (.aload_n 2, 1) := by decide +kernel
theorem dJ5_appendNull_278bc_52 : decode cJ5_appendNull_278bc 52 = .ok (.iload_n 1, 1) := by decide +kernel
theorem dJ5_appendNull_278bc_53 : decode cJ5_appendNull_278bc 53 = .ok (.iinc 1 1, 3) := by decide +kernel
theorem dJ5_appendNull_278bc_56 : decode cJ5_appendNull_278bc 56 = .ok (.bipush 108, 2) := by decide +kernel
theorem dJ5_appendNull_278bc_58 : decode cJ5_appendNull_278bc 58 = .ok (.bastore, 1) := by decide +kernel
theorem dJ5_appendNull_278bc_59 : decode cJ5_appendNull_278bc 59 = .ok (.goto 17, 3) := by decide +kernel
theorem dJ5_appendNull_278bc_62 : decode cJ5_appendNull_278bc 62 = .ok (.aload_n 2, 1) := by decide +kernel
theorem dJ5_appendNull_278bc_63 : decode cJ5_appendNull_278bc 63 = .ok (.iload_n 1, 1) := by decide +kernel
theorem dJ5_appendNull_278bc_64 : decode cJ5_appendNull_278bc 64 = .ok (.bipush 110, 2) := by decide +kernel
theorem dJ5_appendNull_278bc_66 : decode cJ5_appendNull_278bc 66 = .ok (.bipush 117, 2) := by decide +kernel
theorem dJ5_appendNull_278bc_68 : decode cJ5_appendNull_278bc 68 = .ok (.bipush 108, 2) := by decide +kernel
theorem dJ5_appendNull_278bc_70 : decode cJ5_appendNull_278bc 70 = .ok (.bipush 108, 2) := by decide +kernel
theorem dJ5_appendNull_278bc_72 : decode cJ5_appendNull_278bc 72 = .ok (.invokestatic 226, 3) := by decide +kernel
theorem dJ5_appendNull_278bc_75 : decode cJ5_appendNull_278bc 75 = .ok (.istore_n 1, 1) := by decide +kernel
theorem dJ5_appendNull_278bc_76 : decode cJ5_appendNull_278bc 76 = .ok (.aload_n 0, 1) := by decide +kernel
theorem dJ5_appendNull_278bc_77 : decode cJ5_appendNull_278bc 77 = .ok (.iload_n 1, 1) := by decide +kernel
theorem dJ5_appendNull_278bc_78 : decode cJ5_appendNull_278bc 78 = .ok (.putfield 79, 3) := by decide +kernel
theorem dJ5_appendNull_278bc_81 : decode cJ5_appendNull_278bc 81 = .ok (.aload_n 0, 1) := by decide +kernel
theorem dJ5_appendNull_278bc_82 : decode cJ5_appendNull_278bc 82 = .ok (.areturn, 1) := by decide +kernel
theorem dJ5_append_3fe6f_0 : decode cJ5_append_3fe6f 0 = .ok (.aload_n 0, 1) := by decide +kernel
theorem dJ5_append_3fe6f_1 : decode cJ5_append_3fe6f 1 = .ok (.aload_n 0, 1) := by decide +kernel
theorem dJ5_append_3fe6f_2 : decode cJ5_append_3fe6f 2 = .ok (.getfield 79, 3) := by decide +kernel
theorem dJ5_append_3fe6f_5 : decode cJ5_append_3fe6f 5 = .ok (.iconst 1, 1) := by decide +kernel
theorem dJ5_append_3fe6f_6 : decode cJ5_append_3fe6f 6 = .ok (.iadd, 1) := by decide +kernel
theorem dJ5_append_3fe6f_7 : decode cJ5_append_3fe6f 7 = .ok (.invokevirtual 100, 3) := by decide +kernel
theorem dJ5_append_3fe6f_10 : decode cJ5_append_3fe6f 10 = .ok (.aload_n 0, 1) := by decide +kernel
theorem dJ5_append_3fe6f_11 : decode cJ5_append_3fe6f 11 = .ok (.invokevirtual 83, 3) := by decide +kernel
theorem dJ5_append_3fe6f_14 : decode cJ5_append_3fe6f 14 = .ok (.ifCond .eq 31, 3) := by decide +kernel
theorem dJ5_append_3fe6f_17 : decode cJ5_append_3fe6f 17 = .ok (.iload_n 1, 1) := by decide +kernel
theorem dJ5_append_3fe6f_18 : decode cJ5_append_3fe6f 18 = .ok (.invokestatic 191, 3) := by decide +kernel
theorem dJ5_append_3fe6f_21 : decode cJ5_append_3fe6f 21 = .ok (.ifCond .eq 24, 3) := by decide +kernel
theorem dJ5_append_3fe6f_24 : decode cJ5_append_3fe6f 24 = .ok (.aload_n 0, 1) := by decide +kernel
theorem dJ5_append_3fe6f_25 : decode cJ5_append_3fe6f 25 = .ok (.getfield 15, 3) := by decide +kernel
theorem dJ5_append_3fe6f_28 : decode cJ5_append_3fe6f 28 = .ok (.aload_n 0, 1) := by decide +kernel
theorem dJ5_append_3fe6f_29 : decode cJ5_append_3fe6f 29 = .ok (.dup, 1) := by decide +kernel
theorem dJ5_append_3fe6f_30 : decode cJ5_append_3fe6f 30 = .ok (.getfield 79, 3) := by decide +kernel
theorem dJ5_append_3fe6f_33 : decode cJ5_append_3fe6f 33 = .ok (.dup_x1, 1) := by decide +kernel
theorem dJ5_append_3fe6f_34 : decode cJ5_append_3fe6f 34 = .ok (.iconst 1, 1) := by decide +kernel
theorem dJ5_append_3fe6f_35 : decode cJ5_append_3fe6f 35 = .ok (.iadd, 1) := by decide +kernel
theorem dJ5_append_3fe6f_36 : decode cJ5_append_3fe6f 36 = .ok (.putfield 79, 3) := by decide +kernel
theorem dJ5_append_3fe6f_39 : decode cJ5_append_3fe6f 39 = .ok (.iload_n 1, 1) := by decide +kernel
theorem dJ5_append_3fe6f_40 : decode cJ5_append_3fe6f 40 = .ok (.i2b, 1) := by decide +kernel
theorem dJ5_append_3fe6f_41 : decode cJ5_append_3fe6f 41 = .ok (.bastore, 1) := by decide +kernel
theorem dJ5_append_3fe6f_42 : decode cJ5_append_3fe6f 42 = .ok (.goto 33, 3) := by decide +kernel
theorem dJ5_append_3fe6f_45 : decode cJ5_append_3fe6f 45 = .ok (.aload_n 0, 1) := by decide +kernel
theorem dJ5_append_3fe6f_46 : decode cJ5_append_3fe6f 46 = .ok (.invokevirtual 83, 3) := by decide +kernel
theorem dJ5_append_3fe6f_49 : decode cJ5_append_3fe6f 49 = .ok (.ifCond .eq 7, 3) := by decide +kernel
theorem dJ5_append_3fe6f_52 : decode cJ5_append_3fe6f 52 = .ok (.aload_n 0, 1) := by decide +kernel
theorem dJ5_append_3fe6f_53 : decode cJ5_append_3fe6f 53 = .ok (.invokevirtual 195, 3) := by decide +kernel
theorem dJ5_append_3fe6f_56 : decode cJ5_append_3fe6f 56 = .ok (.aload_n 0, 1) := by decide +kernel
theorem dJ5_append_3fe6f_57 : decode cJ5_append_3fe6f 57 = .ok (.getfield 15, 3) := by decide +kernel
theorem dJ5_append_3fe6f_60 : decode cJ5_append_3fe6f 60 = .ok (.aload_n 0, 1) := by decide +kernel
theorem dJ5_append_3fe6f_61 : decode cJ5_append_3fe6f 61 = .ok (.dup, 1) := by decide +kernel
theorem dJ5_append_3fe6f_62 : decode cJ5_append_3fe6f 62 = .ok (.getfield 79, 3) := by decide +kernel
theorem dJ5_append_3fe6f_65 : decode cJ5_append_3fe6f 65 = .ok (.dup_x1, 1) := by decide +kernel
theorem dJ5_append_3fe6f_66 : decode cJ5_append_3fe6f 66 = .ok (.iconst 1, 1) := by decide +kernel
theorem dJ5_append_3fe6f_67 : decode cJ5_append_3fe6f 67 = .ok (.iadd, 1) := by decide +kernel
theorem dJ5_append_3fe6f_68 : decode cJ5_append_3fe6f 68 = .ok (.putfield 79, 3) := by decide +kernel
theorem dJ5_append_3fe6f_71 : decode cJ5_append_3fe6f 71 = .ok (.iload_n 1, 1) := by decide +kernel
theorem dJ5_append_3fe6f_72 : decode cJ5_append_3fe6f 72 = .ok (.invokestatic 197, 3) := by decide +kernel
theorem dJ5_append_3fe6f_75 : decode cJ5_append_3fe6f 75 = .ok (.aload_n 0, 1) := by decide +kernel
theorem dJ5_append_3fe6f_76 : decode cJ5_append_3fe6f 76 = .ok (.areturn, 1) := by decide +kernel
theorem dJ5_append_c97b9_0 : decode cJ5_append_c97b9 0 = .ok (.aload_n 0, 1) := by decide +kernel
theorem dJ5_append_c97b9_1 : decode cJ5_append_c97b9 1 = .ok (.getfield 79, 3) := by decide +kernel
theorem dJ5_append_c97b9_4 : decode cJ5_append_c97b9 4 = .ok (.istore_n 2, 1) := by decide +kernel
theorem dJ5_append_c97b9_5 : decode cJ5_append_c97b9 5 = .ok (.iload_n 2, 1) := by decide +kernel
theorem dJ5_append_c97b9_6 : decode cJ5_append_c97b9 6 = .ok (.iload_n 1, 1) := by decide +kernel
theorem dJ5_append_c97b9_7 : decode cJ5_append_c97b9 7 = .ok (.invokestatic 245, 3) := by decide +kernel
theorem dJ5_append_c97b9_10 : decode cJ5_append_c97b9 10 = .ok (.iadd, 1) := by decide +kernel
theorem dJ5_append_c97b9_11 : decode cJ5_append_c97b9 11 = .ok (.istore_n 3, 1) := by decide +kernel
theorem dJ5_append_c97b9_12 : decode cJ5_append_c97b9 12 = .ok (.aload_n 0, 1) := by decide +kernel
theorem dJ5_append_c97b9_13 : decode cJ5_append_c97b9 13 = .ok (.iload_n 3, 1) := by decide +kernel
theorem dJ5_append_c97b9_14 : decode cJ5_append_c97b9 14 = .ok (.invokevirtual 100, 3) := by decide +kernel
theorem dJ5_append_c97b9_17 : decode cJ5_append_c97b9 17 = .ok (.aload_n 0, 1) := by decide +kernel
theorem dJ5_append_c97b9_18 : decode cJ5_append_c97b9 18 = .ok (.invokevirtual 83, 3) := by decide +kernel
theorem dJ5_append_c97b9_21 : decode cJ5_append_c97b9 21 = .ok (.ifCond .eq 16, 3) := by decide +kernel
theorem dJ5_append_c97b9_24 : decode cJ5_append_c97b9 24 = .ok (.iload_n 1, 1) := by decide +kernel
theorem dJ5_append_c97b9_25 : decode cJ5_append_c97b9 25 = .ok (.iload_n 3, 1) := by decide +kernel
theorem dJ5_append_c97b9_26 : decode cJ5_append_c97b9 26 = .ok (.aload_n 0, 1) := by decide +kernel
theorem dJ5_append_c97b9_27 : decode cJ5_append_c97b9 27 = .ok (.getfield 15, 3) := by decide +kernel
theorem dJ5_append_c97b9_30 : decode cJ5_append_c97b9 30 = .ok (.invokestatic 248, 3) := by decide +kernel
theorem dJ5_append_c97b9_33 : decode cJ5_append_c97b9 33 = .ok (.pop, 1) := by decide +kernel
theorem dJ5_append_c97b9_34 : decode cJ5_append_c97b9 34 = .ok (.goto 14, 3) := by decide +kernel
theorem dJ5_append_c97b9_37 : decode cJ5_append_c97b9 37 = .ok (.iload_n 1, 1) := by decide +kernel
theorem dJ5_append_c97b9_38 : decode cJ5_append_c97b9 38 = .ok (.iload_n 2, 1) := by decide +kernel
theorem dJ5_append_c97b9_39 : decode cJ5_append_c97b9 39 = .ok (.iload_n 3, 1) := by decide +kernel
theorem dJ5_append_c97b9_40 : decode cJ5_append_c97b9 40 = .ok (.aload_n 0, 1) := by decide +kernel
theorem dJ5_append_c97b9_41 : decode cJ5_append_c97b9 41 = .ok (.getfield 15, 3) := by decide +kernel
theorem dJ5_append_c97b9_44 : decode cJ5_append_c97b9 44 = .ok (.invokestatic 251, 3) := by decide +kernel
theorem dJ5_append_c97b9_47 : decode cJ5_append_c97b9 47 = .ok (.pop, 1) := by decide +kernel
theorem dJ5_append_c97b9_48 : decode cJ5_append_c97b9 48 = .ok (.aload_n 0, 1) := by decide +kernel
theorem dJ5_append_c97b9_49 : decode cJ5_append_c97b9 49 = .ok (.iload_n 3, 1) := by decide +kernel
theorem dJ5_append_c97b9_50 : decode cJ5_append_c97b9 50 = .ok (.putfield 79, 3) := by decide +kernel
theorem dJ5_append_c97b9_53 : decode cJ5_append_c97b9 53 = .ok (.aload_n 0, 1) := by decide +kernel
theorem dJ5_append_c97b9_54 : decode cJ5_append_c97b9 54 = .ok (.areturn, 1) := by decide +kernel
theorem dJ5_append_cf1ce_0 : decode cJ5_append_cf1ce 0 = .ok (.aload_n 1, 1) := by decide +kernel
theorem dJ5_append_cf1ce_1 : decode cJ5_append_cf1ce 1 = .ok (.ifnonnull 8, 3) := by decide +kernel
theorem dJ5_append_cf1ce_4 : decode cJ5_append_cf1ce 4 = .ok (.aload_n 0, 1) := by decide +kernel
theorem dJ5_append_cf1ce_5 : decode cJ5_append_cf1ce 5 = .ok (.invokevirtual 204, 3) := by decide +kernel
theorem dJ5_append_cf1ce_8 : decode cJ5_append_cf1ce 8 = .ok (.areturn, 1) := by decide +kernel
theorem dJ5_append_cf1ce_9 : decode cJ5_append_cf1ce 9 = .ok (.aload_n 1, 1) := by decide +kernel
theorem dJ5_append_cf1ce_10 : decode cJ5_append_cf1ce 10 = .ok (.invokevirtual 32, 3) := by decide +kernel
theorem dJ5_append_cf1ce_13 : decode cJ5_append_cf1ce 13 = .ok (.istore_n 2, 1) := by decide +kernel
theorem dJ5_append_cf1ce_14 : decode cJ5_append_cf1ce 14 = .ok (.aload_n 0, 1) := by decide +kernel
theorem dJ5_append_cf1ce_15 : decode cJ5_append_cf1ce 15 = .ok (.aload_n 0, 1) := by decide +kernel
theorem dJ5_append_cf1ce_16 : decode cJ5_append_cf1ce 16 = .ok (.getfield 79, 3) := by decide +kernel
theorem dJ5_append_cf1ce_19 : decode cJ5_append_cf1ce 19 = .ok (.iload_n 2, 1) := by decide +kernel
theorem dJ5_append_cf1ce_20 : decode cJ5_append_cf1ce 20 = .ok (.iadd, 1) := by decide +kernel
theorem dJ5_append_cf1ce_21 : decode cJ5_append_cf1ce 21 = .ok (.invokevirtual 100, 3) := by decide +kernel
theorem dJ5_append_cf1ce_24 : decode cJ5_append_cf1ce 24 = .ok (.aload_n 0, 1) := by decide +kernel
theorem dJ5_append_cf1ce_25 : decode cJ5_append_cf1ce 25 = .ok (.aload_n 0, 1) := by decide +kernel
theorem dJ5_append_cf1ce_26 : decode cJ5_append_cf1ce 26 = .ok (.getfield 79, 3) := by decide +kernel
theorem dJ5_append_cf1ce_29 : decode cJ5_append_cf1ce 29 = .ok (.aload_n 1, 1) := by decide +kernel
theorem dJ5_append_cf1ce_30 : decode cJ5_append_cf1ce 30 = .ok (.invokevirtual 208, 3) := by decide +kernel
theorem dJ5_append_cf1ce_33 : decode cJ5_append_cf1ce 33 = .ok (.aload_n 0, 1) := by decide +kernel
theorem dJ5_append_cf1ce_34 : decode cJ5_append_cf1ce 34 = .ok (.dup, 1) := by decide +kernel
theorem dJ5_append_cf1ce_35 : decode cJ5_append_cf1ce 35 = .ok (.getfield 79, 3) := by decide +kernel
theorem dJ5_append_cf1ce_38 : decode cJ5_append_cf1ce 38 = .ok (.iload_n 2, 1) := by decide +kernel
theorem dJ5_append_cf1ce_39 : decode cJ5_append_cf1ce 39 = .ok (.iadd, 1) := by decide +kernel
theorem dJ5_append_cf1ce_40 : decode cJ5_append_cf1ce 40 = .ok (.putfield 79, 3) := by decide +kernel
theorem dJ5_append_cf1ce_43 : decode cJ5_append_cf1ce 43 = .ok (.aload_n 0, 1) := by decide +kernel
theorem dJ5_append_cf1ce_44 : decode cJ5_append_cf1ce 44 = .ok (.areturn, 1) := by decide +kernel
theorem dJ5_ensureCapacityInternal_d00df_0 : decode cJ5_ensureCapacityInternal_d00df 0 = .ok (.aload_n 0, 1) := by decide +kernel
theorem dJ5_ensureCapacityInternal_d00df_1 : decode cJ5_ensureCapacityInternal_d00df 1 = .ok (.getfield 15, 3) := by decide +kernel
theorem dJ5_ensureCapacityInternal_d00df_4 : decode cJ5_ensureCapacityInternal_d00df 4 = .ok (.arraylength, 1) := by decide +kernel
theorem dJ5_ensureCapacityInternal_d00df_5 : decode cJ5_ensureCapacityInternal_d00df 5 = .ok (.aload_n 0, 1) := by decide +kernel
theorem dJ5_ensureCapacityInternal_d00df_6 : decode cJ5_ensureCapacityInternal_d00df 6 = .ok (.getfield 22, 3) := by decide +kernel
theorem dJ5_ensureCapacityInternal_d00df_9 : decode cJ5_ensureCapacityInternal_d00df 9 = .ok (.ishr, 1) := by decide +kernel
theorem dJ5_ensureCapacityInternal_d00df_10 : decode cJ5_ensureCapacityInternal_d00df 10 = .ok (.istore_n 2, 1) := by decide +kernel
theorem dJ5_ensureCapacityInternal_d00df_11 : decode cJ5_ensureCapacityInternal_d00df 11 = .ok (.iload_n 1, 1) := by decide +kernel
theorem dJ5_ensureCapacityInternal_d00df_12 : decode cJ5_ensureCapacityInternal_d00df 12 = .ok (.iload_n 2, 1) := by decide +kernel
theorem dJ5_ensureCapacityInternal_d00df_13 : decode cJ5_ensureCapacityInternal_d00df 13 = .ok (.isub, 1) := by decide +kernel
theorem dJ5_ensureCapacityInternal_d00df_14 : decode cJ5_ensureCapacityInternal_d00df 14 = .ok (.ifCond .le 24, 3) := by decide +kernel
theorem dJ5_ensureCapacityInternal_d00df_17 : decode cJ5_ensureCapacityInternal_d00df 17 = .ok (.aload_n 0, 1) := by decide +kernel
theorem dJ5_ensureCapacityInternal_d00df_18 : decode cJ5_ensureCapacityInternal_d00df 18 = .ok (.aload_n 0, 1) := by decide +kernel
theorem dJ5_ensureCapacityInternal_d00df_19 : decode cJ5_ensureCapacityInternal_d00df 19 = .ok (.getfield 15, 3) := by decide +kernel
theorem dJ5_ensureCapacityInternal_d00df_22 : decode cJ5_ensureCapacityInternal_d00df 22 = .ok (.aload_n 0, 1) := by decide +kernel
theorem dJ5_ensureCapacityInternal_d00df_23 : decode cJ5_ensureCapacityInternal_d00df 23 = .ok (.iload_n 1, 1) := by decide +kernel
theorem dJ5_ensureCapacityInternal_d00df_24 : decode cJ5_ensureCapacityInternal_d00df 24 = .ok (.invokevirtual 104, 3) := by decide +kernel
theorem dJ5_ensureCapacityInternal_d00df_27 : decode cJ5_ensureCapacityInternal_d00df 27 = .ok (.aload_n 0, 1) := by decide +kernel
theorem dJ5_ensureCapacityInternal_d00df_28 : decode cJ5_ensureCapacityInternal_d00df 28 = .ok (.getfield 22, 3) := by decide +kernel
theorem dJ5_ensureCapacityInternal_d00df_31 : decode cJ5_ensureCapacityInternal_d00df 31 = .ok (.ishl, 1) := by decide +kernel
theorem dJ5_ensureCapacityInternal_d00df_32 : decode cJ5_ensureCapacityInternal_d00df 32 = .ok (.invokestatic 108, 3) := by decide +kernel
theorem dJ5_ensureCapacityInternal_d00df_35 : decode cJ5_ensureCapacityInternal_d00df 35 = .ok (.putfield 15, 3) := by decide +kernel
theorem dJ5_ensureCapacityInternal_d00df_38 : decode cJ5_ensureCapacityInternal_d00df 38 = .ok (.return_, 1) := by decide +kernel
theorem dJ5_getValue_6d5f1_0 : decode cJ5_getValue_6d5f1 0 = .ok (.aload_n 0, 1) := by decide +kernel
theorem dJ5_getValue_6d5f1_1 : decode cJ5_getValue_6d5f1 1 = .ok (.getfield 15, 3) := by decide +kernel
theorem dJ5_getValue_6d5f1_4 : decode cJ5_getValue_6d5f1 4 = .ok (.areturn, 1) := by decide +kernel
theorem dJ5_inflateIfNeededFor_a7421_0 : decode cJ5_inflateIfNeededFor_a7421 0 = .ok (.getstatic 18, 3) := by decide +kernel
theorem dJ5_inflateIfNeededFor_a7421_3 : decode cJ5_inflateIfNeededFor_a7421 3 = .ok (.ifCond .eq 18, 3) := by decide +kernel
theorem dJ5_inflateIfNeededFor_a7421_6 : decode cJ5_inflateIfNeededFor_a7421 6 = .ok (.aload_n 0, 1) := by decide +kernel
theorem dJ5_inflateIfNeededFor_a7421_7 : decode cJ5_inflateIfNeededFor_a7421 7 = .ok (.getfield 22, 3) := by decide +kernel
theorem dJ5_inflateIfNeededFor_a7421_10 : decode cJ5_inflateIfNeededFor_a7421 10 = .ok (.aload_n 1, 1) := by decide +kernel
theorem dJ5_inflateIfNeededFor_a7421_11 : decode cJ5_inflateIfNeededFor_a7421 11 = .ok (.invokevirtual 40, 3) := by decide +kernel
theorem dJ5_inflateIfNeededFor_a7421_14 : decode cJ5_inflateIfNeededFor_a7421 14 = .ok (.if_icmp .eq 7, 3) := by decide +kernel
theorem dJ5_inflateIfNeededFor_a7421_17 : decode cJ5_inflateIfNeededFor_a7421 17 = .ok (.aload_n 0, 1) := by decide +kernel
theorem dJ5_inflateIfNeededFor_a7421_18 : decode cJ5_inflateIfNeededFor_a7421 18 = .ok (.invokevirtual 195, 3) := by decide +kernel
theorem dJ5_inflateIfNeededFor_a7421_21 : decode cJ5_inflateIfNeededFor_a7421 21 = .ok (.return_, 1) := by decide +kernel
theorem dJ5_inflate_da8c8_0 : decode cJ5_inflate_da8c8 0 = .ok (.aload_n 0, 1) := by decide +kernel
theorem dJ5_inflate_da8c8_1 : decode cJ5_inflate_da8c8 1 = .ok (.invokevirtual 83, 3) := by decide +kernel
theorem dJ5_inflate_da8c8_4 : decode cJ5_inflate_da8c8 4 = .ok (.ifCond .ne 4, 3) := by decide +kernel
theorem dJ5_inflate_da8c8_7 : decode cJ5_inflate_da8c8 7 = .ok (.return_, 1) := by decide +kernel
theorem dJ5_inflate_da8c8_8 : decode cJ5_inflate_da8c8 8 = .ok (.aload_n 0, 1) := by decide +kernel
theorem dJ5_inflate_da8c8_9 : decode cJ5_inflate_da8c8 9 = .ok (.getfield 15, 3) := by decide +kernel
theorem dJ5_inflate_da8c8_12 : decode cJ5_inflate_da8c8 12 = .ok (.arraylength, 1) := by decide +kernel
theorem dJ5_inflate_da8c8_13 : decode cJ5_inflate_da8c8 13 = .ok (.invokestatic 26, 3) := by decide +kernel
theorem dJ5_inflate_da8c8_16 : decode cJ5_inflate_da8c8 16 = .ok (.astore_n 1, 1) := by decide +kernel
theorem dJ5_inflate_da8c8_17 : decode cJ5_inflate_da8c8 17 = .ok (.aload_n 0, 1) := by decide +kernel
theorem dJ5_inflate_da8c8_18 : decode cJ5_inflate_da8c8 18 = .ok (.getfield 15, 3) := by decide +kernel
theorem dJ5_inflate_da8c8_21 : decode cJ5_inflate_da8c8 21 = .ok (.iconst 0, 1) := by decide +kernel
theorem dJ5_inflate_da8c8_22 : decode cJ5_inflate_da8c8 22 = .ok (.aload_n 1, 1) := by decide +kernel
theorem dJ5_inflate_da8c8_23 : decode cJ5_inflate_da8c8 23 = .ok (.iconst 0, 1) := by decide +kernel
theorem dJ5_inflate_da8c8_24 : decode cJ5_inflate_da8c8 24 = .ok (.aload_n 0, 1) := by decide +kernel
theorem dJ5_inflate_da8c8_25 : decode cJ5_inflate_da8c8 25 = .ok (.getfield 79, 3) := by decide +kernel
theorem dJ5_inflate_da8c8_28 : decode cJ5_inflate_da8c8 28 = .ok (.invokestatic 125, 3) := by decide +kernel
theorem dJ5_inflate_da8c8_31 : decode cJ5_inflate_da8c8 31 = .ok (.aload_n 0, 1) := by decide +kernel
theorem dJ5_inflate_da8c8_32 : decode cJ5_inflate_da8c8 32 = .ok (.aload_n 1, 1) := by decide +kernel
theorem dJ5_inflate_da8c8_33 : decode cJ5_inflate_da8c8 33 = .ok (.putfield 15, 3) := by decide +kernel
theorem dJ5_inflate_da8c8_36 : decode cJ5_inflate_da8c8 36 = .ok (.aload_n 0, 1) := by decide +kernel
theorem dJ5_inflate_da8c8_37 : decode cJ5_inflate_da8c8 37 = .ok (.iconst 1, 1) := by decide +kernel
theorem dJ5_inflate_da8c8_38 : decode cJ5_inflate_da8c8 38 = .ok (.putfield 22, 3) := by decide +kernel
theorem dJ5_inflate_da8c8_41 : decode cJ5_inflate_da8c8 41 = .ok (.return_, 1) := by decide +kernel
theorem dJ5_init_d00df_0 : decode cJ5_init_d00df 0 = .ok (.aload_n 0, 1) := by decide +kernel
theorem dJ5_init_d00df_1 : decode cJ5_init_d00df 1 = .ok (.invokespecial 3, 3) := by decide +kernel
theorem dJ5_init_d00df_4 : decode cJ5_init_d00df 4 = .ok (.getstatic 18, 3) := by decide +kernel
theorem dJ5_init_d00df_7 : decode cJ5_init_d00df 7 = .ok (.ifCond .eq 18, 3) := by decide +kernel
theorem dJ5_init_d00df_10 : decode cJ5_init_d00df 10 = .ok (.aload_n 0, 1) := by decide +kernel
theorem dJ5_init_d00df_11 : decode cJ5_init_d00df 11 = .ok (.iload_n 1, 1) := by decide +kernel
theorem dJ5_init_d00df_12 : decode cJ5_init_d00df 12 = .ok (.newarray .byte, 2) := by decide +kernel
theorem dJ5_init_d00df_14 : decode cJ5_init_d00df 14 = .ok (.putfield 15, 3) := by decide +kernel
theorem dJ5_init_d00df_17 : decode cJ5_init_d00df 17 = .ok (.aload_n 0, 1) := by decide +kernel
theorem dJ5_init_d00df_18 : decode cJ5_init_d00df 18 = .ok (.iconst 0, 1) := by decide +kernel
theorem dJ5_init_d00df_19 : decode cJ5_init_d00df 19 = .ok (.putfield 22, 3) := by decide +kernel
theorem dJ5_init_d00df_22 : decode cJ5_init_d00df 22 = .ok (.goto 16, 3) := by decide +kernel
theorem dJ5_init_d00df_25 : decode cJ5_init_d00df 25 = .ok (.aload_n 0, 1) := by decide +kernel
theorem dJ5_init_d00df_26 : decode cJ5_init_d00df 26 = .ok (.iload_n 1, 1) := by decide +kernel
theorem dJ5_init_d00df_27 : decode cJ5_init_d00df 27 = .ok (.invokestatic 26, 3) := by decide +kernel
theorem dJ5_init_d00df_30 : decode cJ5_init_d00df 30 = .ok (.putfield 15, 3) := by decide +kernel
theorem dJ5_init_d00df_33 : decode cJ5_init_d00df 33 = .ok (.aload_n 0, 1) := by decide +kernel
theorem dJ5_init_d00df_34 : decode cJ5_init_d00df 34 = .ok (.iconst 1, 1) := by decide +kernel
theorem dJ5_init_d00df_35 : decode cJ5_init_d00df 35 = .ok (.putfield 22, 3) := by decide +kernel
theorem dJ5_init_d00df_38 : decode cJ5_init_d00df 38 = .ok (.return_, 1) := by decide +kernel
theorem dJ5_isLatin1_aae02_0 : decode cJ5_isLatin1_aae02 0 = .ok (.getstatic 18, 3) := by decide +kernel
theorem dJ5_isLatin1_aae02_3 : decode cJ5_isLatin1_aae02 3 = .ok (.ifCond .eq 14, 3) := by decide +kernel
theorem dJ5_isLatin1_aae02_6 : decode cJ5_isLatin1_aae02 6 = .ok (.aload_n 0, 1) := by decide +kernel
theorem dJ5_isLatin1_aae02_7 : decode cJ5_isLatin1_aae02 7 = .ok (.getfield 22, 3) := by decide +kernel
theorem dJ5_isLatin1_aae02_10 : decode cJ5_isLatin1_aae02 10 = .ok (.ifCond .ne 7, 3) := by decide +kernel
theorem dJ5_isLatin1_aae02_13 : decode cJ5_isLatin1_aae02 13 = .ok (.iconst 1, 1) := by decide +kernel
theorem dJ5_isLatin1_aae02_14 : decode cJ5_isLatin1_aae02 14 = .ok (.goto 4, 3) := by decide +kernel
theorem dJ5_isLatin1_aae02_17 : decode cJ5_isLatin1_aae02 17 = .ok (.iconst 0, 1) := by decide +kernel
theorem dJ5_isLatin1_aae02_18 : decode cJ5_isLatin1_aae02 18 = .ok (.ireturn, 1) := by decide +kernel
theorem dJ5_length_8abf5_0 : decode cJ5_length_8abf5 0 = .ok (.aload_n 0, 1) := by decide +kernel
theorem dJ5_length_8abf5_1 : decode cJ5_length_8abf5 1 = .ok (.getfield 79, 3) := by decide +kernel
theorem dJ5_length_8abf5_4 : decode cJ5_length_8abf5 4 = .ok (.ireturn, 1) := by decide +kernel
theorem dJ5_newCapacity_0f7a4_0 : decode cJ5_newCapacity_0f7a4 0 = .ok (.aload_n 0, 1) := by decide +kernel
theorem dJ5_newCapacity_0f7a4_1 : decode cJ5_newCapacity_0f7a4 1 = .ok (.getfield 15, 3) := by decide +kernel
theorem dJ5_newCapacity_0f7a4_4 : decode cJ5_newCapacity_0f7a4 4 = .ok (.arraylength, 1) := by decide +kernel
theorem dJ5_newCapacity_0f7a4_5 : decode cJ5_newCapacity_0f7a4 5 = .ok (.istore_n 2, 1) := by decide +kernel
theorem dJ5_newCapacity_0f7a4_6 : decode cJ5_newCapacity_0f7a4 6 = .ok (.iload_n 1, 1) := by decide +kernel
theorem dJ5_newCapacity_0f7a4_7 : decode cJ5_newCapacity_0f7a4 7 = .ok (.aload_n 0, 1) := by decide +kernel
theorem dJ5_newCapacity_0f7a4_8 : decode cJ5_newCapacity_0f7a4 8 = .ok (.getfield 22, 3) := by decide +kernel
theorem dJ5_newCapacity_0f7a4_11 : decode cJ5_newCapacity_0f7a4 11 = .ok (.ishl, 1) := by decide +kernel
theorem dJ5_newCapacity_0f7a4_12 : decode cJ5_newCapacity_0f7a4 12 = .ok (.istore_n 3, 1) := by decide +kernel
theorem dJ5_newCapacity_0f7a4_13 : decode cJ5_newCapacity_0f7a4 13 = .ok (.iload_n 3, 1) := by decide +kernel
theorem dJ5_newCapacity_0f7a4_14 : decode cJ5_newCapacity_0f7a4 14 = .ok (.iload_n 2, 1) := by decide +kernel
theorem dJ5_newCapacity_0f7a4_15 : decode cJ5_newCapacity_0f7a4 15 = .ok (.isub, 1) := by decide +kernel
theorem dJ5_newCapacity_0f7a4_16 : decode cJ5_newCapacity_0f7a4 16 = .ok (.istore 4, 2) := by decide +kernel
theorem dJ5_newCapacity_0f7a4_18 : decode cJ5_newCapacity_0f7a4 18 = .ok (.iload_n 2, 1) := by decide +kernel
theorem dJ5_newCapacity_0f7a4_19 : decode cJ5_newCapacity_0f7a4 19 = .ok (.iload 4, 2) := by decide +kernel
theorem dJ5_newCapacity_0f7a4_21 : decode cJ5_newCapacity_0f7a4 21 = .ok (.iload_n 2, 1) := by decide +kernel
theorem dJ5_newCapacity_0f7a4_22 : decode cJ5_newCapacity_0f7a4 22 = .ok (.iconst 2, 1) := by decide +kernel
theorem dJ5_newCapacity_0f7a4_23 : decode cJ5_newCapacity_0f7a4 23 = .ok (.aload_n 0, 1) := by decide +kernel
theorem dJ5_newCapacity_0f7a4_24 : decode cJ5_newCapacity_0f7a4 24 = .ok (.getfield 22, 3) := by decide +kernel
theorem dJ5_newCapacity_0f7a4_27 : decode cJ5_newCapacity_0f7a4 27 = .ok (.ishl, 1) := by decide +kernel
theorem dJ5_newCapacity_0f7a4_28 : decode cJ5_newCapacity_0f7a4 28 = .ok (.iadd, 1) := by decide +kernel
theorem dJ5_newCapacity_0f7a4_29 : decode cJ5_newCapacity_0f7a4 29 = .ok (.invokestatic 114, 3) := by decide +kernel
theorem dJ5_newCapacity_0f7a4_32 : decode cJ5_newCapacity_0f7a4 32 = .ok (.istore 5, 2) := by decide +kernel
theorem dJ5_newCapacity_0f7a4_34 : decode cJ5_newCapacity_0f7a4 34 = .ok (.iload 5, 2) := by decide +kernel
theorem dJ5_newCapacity_0f7a4_36 : decode cJ5_newCapacity_0f7a4 36 = .ok (.ldc 39, 2) := by decide +kernel
theorem dJ5_newCapacity_0f7a4_38 : decode cJ5_newCapacity_0f7a4 38 = .ok (.if_icmp .ne 13, 3) := by decide +kernel
theorem dJ5_newCapacity_0f7a4_41 : decode cJ5_newCapacity_0f7a4 41 = .ok (.new 120, 3) := by decide +kernel
theorem dJ5_newCapacity_0f7a4_44 : decode cJ5_newCapacity_0f7a4 44 = .ok (.dup, 1) := by decide +kernel
theorem dJ5_newCapacity_0f7a4_45 : decode cJ5_newCapacity_0f7a4 45 = .ok (.ldc 122, 2) := by decide +kernel
theorem dJ5_newCapacity_0f7a4_47 : decode cJ5_newCapacity_0f7a4 47 = .ok (.invokespecial 124, 3) := by decide +kernel
theorem dJ5_newCapacity_0f7a4_50 : decode cJ5_newCapacity_0f7a4 50 = .ok (.athrow, 1) := by decide +kernel
theorem dJ5_newCapacity_0f7a4_51 : decode cJ5_newCapacity_0f7a4 51 = .ok (.iload 5, 2) := by decide +kernel
theorem dJ5_newCapacity_0f7a4_53 : decode cJ5_newCapacity_0f7a4 53 = .ok (.aload_n 0, 1) := by decide +kernel
theorem dJ5_newCapacity_0f7a4_54 : decode cJ5_newCapacity_0f7a4 54 = .ok (.getfield 22, 3) := by decide +kernel
theorem dJ5_newCapacity_0f7a4_57 : decode cJ5_newCapacity_0f7a4 57 = .ok (.ishr, 1) := by decide +kernel
theorem dJ5_newCapacity_0f7a4_58 : decode cJ5_newCapacity_0f7a4 58 = .ok (.ireturn, 1) := by decide +kernel
theorem dJ5_putStringAt_47b60_0 : decode cJ5_putStringAt_47b60 0 = .ok (.aload_n 0, 1) := by decide +kernel
theorem dJ5_putStringAt_47b60_1 : decode cJ5_putStringAt_47b60 1 = .ok (.aload_n 2, 1) := by decide +kernel
theorem dJ5_putStringAt_47b60_2 : decode cJ5_putStringAt_47b60 2 = .ok (.invokevirtual 397, 3) := by decide +kernel
theorem dJ5_putStringAt_47b60_5 : decode cJ5_putStringAt_47b60 5 = .ok (.aload_n 2, 1) := by decide +kernel
theorem dJ5_putStringAt_47b60_6 : decode cJ5_putStringAt_47b60 6 = .ok (.aload_n 0, 1) := by decide +kernel
theorem dJ5_putStringAt_47b60_7 : decode cJ5_putStringAt_47b60 7 = .ok (.getfield 15, 3) := by decide +kernel
theorem dJ5_putStringAt_47b60_10 : decode cJ5_putStringAt_47b60 10 = .ok (.iload_n 1, 1) := by decide +kernel
theorem dJ5_putStringAt_47b60_11 : decode cJ5_putStringAt_47b60 11 = .ok (.aload_n 0, 1) := by decide +kernel
theorem dJ5_putStringAt_47b60_12 : decode cJ5_putStringAt_47b60 12 = .ok (.getfield 22, 3) := by decide +kernel
theorem dJ5_putStringAt_47b60_15 : decode cJ5_putStringAt_47b60 15 = .ok (.invokevirtual 399, 3) := by decide +kernel
theorem dJ5_putStringAt_47b60_18 : decode cJ5_putStringAt_47b60 18 = .ok (.return_, 1) := by decide +kernel
theorem dJ6_bitCount_0f7a4_0 : decode cJ6_bitCount_0f7a4 0 = .ok (.iload_n 0, 1) := by decide +kernel
theorem dJ6_bitCount_0f7a4_1 : decode cJ6_bitCount_0f7a4 1 = .ok (.iload_n 0, 1) := by decide +kernel
theorem dJ6_bitCount_0f7a4_2 : decode cJ6_bitCount_0f7a4 2 = .ok (.iconst 1, 1) := by decide +kernel
theorem dJ6_bitCount_0f7a4_3 : decode cJ6_bitCount_0f7a4 3 = .ok (.iushr, 1) := by decide +kernel
theorem dJ6_bitCount_0f7a4_4 : decode cJ6_bitCount_0f7a4 4 = .ok (.ldc_w 265, 3) := by decide +kernel
theorem dJ6_bitCount_0f7a4_7 : decode cJ6_bitCount_0f7a4 7 = .ok (.iand, 1) := by decide +kernel
theorem dJ6_bitCount_0f7a4_8 : decode cJ6_bitCount_0f7a4 8 = .ok (.isub, 1) := by decide +kernel
theorem dJ6_bitCount_0f7a4_9 : decode cJ6_bitCount_0f7a4 9 = .ok (.istore_n 0, 1) := by decide +kernel
theorem dJ6_bitCount_0f7a4_10 : decode cJ6_bitCount_0f7a4 10 = .ok (.iload_n 0, 1) := by decide +kernel
theorem dJ6_bitCount_0f7a4_11 : decode cJ6_bitCount_0f7a4 11 = .ok (.ldc_w 266, 3) := by decide +kernel
theorem dJ6_bitCount_0f7a4_14 : decode cJ6_bitCount_0f7a4 14 = .ok (.iand, 1) := by decide +kernel
theorem dJ6_bitCount_0f7a4_15 : decode cJ6_bitCount_0f7a4 15 = .ok (.iload_n 0, 1) := by decide +kernel
theorem dJ6_bitCount_0f7a4_16 : decode cJ6_bitCount_0f7a4 16 = .ok (.iconst 2, 1) := by decide +kernel
theorem dJ6_bitCount_0f7a4_17 : decode cJ6_bitCount_0f7a4 17 = .ok (.iushr, 1) := by decide +kernel
theorem dJ6_bitCount_0f7a4_18 : decode cJ6_bitCount_0f7a4 18 = .ok (.ldc_w 266, 3) := by decide +kernel
theorem dJ6_bitCount_0f7a4_21 : decode cJ6_bitCount_0f7a4 21 = .ok (.iand, 1) := by decide +kernel
theorem dJ6_bitCount_0f7a4_22 : decode cJ6_bitCount_0f7a4 22 = .ok (.iadd, 1) := by decide +kernel
theorem dJ6_bitCount_0f7a4_23 : decode cJ6_bitCount_0f7a4 23 = .ok (.istore_n 0, 1) := by decide +kernel
theorem dJ6_bitCount_0f7a4_24 : decode cJ6_bitCount_0f7a4 24 = .ok (.iload_n 0, 1) := by decide +kernel
theorem dJ6_bitCount_0f7a4_25 : decode cJ6_bitCount_0f7a4 25 = .ok (.iload_n 0, 1) := by decide +kernel
theorem dJ6_bitCount_0f7a4_26 : decode cJ6_bitCount_0f7a4 26 = .ok (.iconst 4, 1) := by decide +kernel
theorem dJ6_bitCount_0f7a4_27 : decode cJ6_bitCount_0f7a4 27 = .ok (.iushr, 1) := by decide +kernel
theorem dJ6_bitCount_0f7a4_28 : decode cJ6_bitCount_0f7a4 28 = .ok (.iadd, 1) := by decide +kernel
theorem dJ6_bitCount_0f7a4_29 : decode cJ6_bitCount_0f7a4 29 = .ok (.ldc_w 267, 3) := by decide +kernel
theorem dJ6_bitCount_0f7a4_32 : decode cJ6_bitCount_0f7a4 32 = .ok (.iand, 1) := by decide +kernel
theorem dJ6_bitCount_0f7a4_33 : decode cJ6_bitCount_0f7a4 33 = .ok (.istore_n 0, 1) := by decide +kernel
theorem dJ6_bitCount_0f7a4_34 : decode cJ6_bitCount_0f7a4 34 = .ok (.iload_n 0, 1) := by decide +kernel
theorem dJ6_bitCount_0f7a4_35 : decode cJ6_bitCount_0f7a4 35 = .ok (.iload_n 0, 1) := by decide +kernel
theorem dJ6_bitCount_0f7a4_36 : decode cJ6_bitCount_0f7a4 36 = .ok (.bipush 8, 2) := by decide +kernel
theorem dJ6_bitCount_0f7a4_38 : decode cJ6_bitCount_0f7a4 38 = .ok (.iushr, 1) := by decide +kernel
theorem dJ6_bitCount_0f7a4_39 : decode cJ6_bitCount_0f7a4 39 = .ok (.iadd, 1) := by decide +kernel
theorem dJ6_bitCount_0f7a4_40 : decode cJ6_bitCount_0f7a4 40 = .ok (.istore_n 0, 1) := by decide +kernel
theorem dJ6_bitCount_0f7a4_41 : decode cJ6_bitCount_0f7a4 41 = .ok (.iload_n 0, 1) := by decide +kernel
theorem dJ6_bitCount_0f7a4_42 : decode cJ6_bitCount_0f7a4 42 = .ok (.iload_n 0, 1) := by decide +kernel
theorem dJ6_bitCount_0f7a4_43 : decode cJ6_bitCount_0f7a4 43 = .ok (.bipush 16, 2) := by decide +kernel
theorem dJ6_bitCount_0f7a4_45 : decode cJ6_bitCount_0f7a4 45 = .ok (.iushr, 1) := by decide +kernel
theorem dJ6_bitCount_0f7a4_46 : decode cJ6_bitCount_0f7a4 46 = .ok (.iadd, 1) := by decide +kernel
theorem dJ6_bitCount_0f7a4_47 : decode cJ6_bitCount_0f7a4 47 = .ok (.istore_n 0, 1) := by decide +kernel
theorem dJ6_bitCount_0f7a4_48 : decode cJ6_bitCount_0f7a4 48 = .ok (.iload_n 0, 1) := by decide +kernel
theorem dJ6_bitCount_0f7a4_49 : decode cJ6_bitCount_0f7a4 49 = .ok (.bipush 63, 2) := by decide +kernel
theorem dJ6_bitCount_0f7a4_51 : decode cJ6_bitCount_0f7a4 51 = .ok (.iand, 1) := by decide +kernel
theorem dJ6_bitCount_0f7a4_52 : decode cJ6_bitCount_0f7a4 52 = .ok (.ireturn, 1) := by decide +kernel
theorem dJ6_getChars_ba4f3_0 : decode cJ6_getChars_ba4f3 0 = .ok (.iload_n 1, 1) := by decide +kernel
theorem dJ6_getChars_ba4f3_1 : decode cJ6_getChars_ba4f3 1 = .ok (.istore 5, 2) := by decide +kernel
theorem dJ6_getChars_ba4f3_3 : decode cJ6_getChars_ba4f3 3 = .ok (.iload_n 0, 1) := by decide +kernel
theorem dJ6_getChars_ba4f3_4 : decode cJ6_getChars_ba4f3 4 = .ok (.ifCond .ge 7, 3) := by decide +kernel
theorem dJ6_getChars_ba4f3_7 : decode cJ6_getChars_ba4f3 7 = .ok (.iconst 1, 1) := by decide +kernel
theorem dJ6_getChars_ba4f3_8 : decode cJ6_getChars_ba4f3 8 = .ok (.goto 4, 3) := by decide +kernel
theorem dJ6_getChars_ba4f3_11 : decode cJ6_getChars_ba4f3 11 = .ok (.iconst 0, 1) := by decide +kernel
theorem dJ6_getChars_ba4f3_12 : decode cJ6_getChars_ba4f3 12 = .ok (.istore 6, 2) := by decide +kernel
theorem dJ6_getChars_ba4f3_14 : decode cJ6_getChars_ba4f3 14 = .ok (.iload 6, 2) := by decide +kernel
theorem dJ6_getChars_ba4f3_16 : decode cJ6_getChars_ba4f3 16 = .ok (.ifCond .ne 6, 3) := by decide +kernel
theorem dJ6_getChars_ba4f3_19 : decode cJ6_getChars_ba4f3 19 = .ok (.iload_n 0, 1) := by decide +kernel
theorem dJ6_getChars_ba4f3_20 : decode cJ6_getChars_ba4f3 20 = .ok (.ineg, 1) := by decide +kernel
theorem dJ6_getChars_ba4f3_21 : decode cJ6_getChars_ba4f3 21 = .ok (.istore_n 0, 1) := by decide +kernel
theorem dJ6_getChars_ba4f3_22 : decode cJ6_getChars_ba4f3 22 = .ok (.iload_n 0, 1) := by decide +kernel
theorem dJ6_getChars_ba4f3_23 : decode cJ6_getChars_ba4f3 23 = .ok (.bipush (-100), 2) := by decide +kernel
theorem dJ6_getChars_ba4f3_25 : decode cJ6_getChars_ba4f3 25 = .ok (.if_icmp .gt 47, 3) := by decide +kernel
theorem dJ6_getChars_ba4f3_28 : decode cJ6_getChars_ba4f3 28 = .ok (.iload_n 0, 1) := by decide +kernel
theorem dJ6_getChars_ba4f3_29 : decode cJ6_getChars_ba4f3 29 = .ok (.bipush 100, 2) := by decide +kernel
theorem dJ6_getChars_ba4f3_31 : decode cJ6_getChars_ba4f3 31 = .ok (.idiv, 1) := by decide +kernel
theorem dJ6_getChars_ba4f3_32 : decode cJ6_getChars_ba4f3 32 = .ok (.istore_n 3, 1) := by decide +kernel
theorem dJ6_getChars_ba4f3_33 : decode cJ6_getChars_ba4f3 33 = .ok (.iload_n 3, 1) := by decide +kernel
theorem dJ6_getChars_ba4f3_34 : decode cJ6_getChars_ba4f3 34 = .ok (.bipush 100, 2) := by decide +kernel
theorem dJ6_getChars_ba4f3_36 : decode cJ6_getChars_ba4f3 36 = .ok (.imul, 1) := by decide +kernel
theorem dJ6_getChars_ba4f3_37 : decode cJ6_getChars_ba4f3 37 = .ok (.iload_n 0, 1) := by decide +kernel
theorem dJ6_getChars_ba4f3_38 : decode cJ6_getChars_ba4f3 38 = .ok (.isub, 1) := by decide +kernel
theorem dJ6_getChars_ba4f3_39 : decode cJ6_getChars_ba4f3 39 = .ok (.istore 4, 2) := by decide +kernel
theorem dJ6_getChars_ba4f3_41 : decode cJ6_getChars_ba4f3 41 = .ok (.iload_n 3, 1) := by decide +kernel
theorem dJ6_getChars_ba4f3_42 : decode cJ6_getChars_ba4f3 42 = .ok (.istore_n 0, 1) := by decide +kernel
theorem dJ6_getChars_ba4f3_43 : decode cJ6_getChars_ba4f3 43 = .ok (.aload_n 2, 1) := by decide +kernel
theorem dJ6_getChars_ba4f3_44 : decode cJ6_getChars_ba4f3 44 = .ok (.iinc 5 (-1), 3) := by decide +kernel
theorem dJ6_getChars_ba4f3_47 : decode cJ6_getChars_ba4f3 47 = .ok (.iload 5, 2) := by decide +kernel
theorem dJ6_getChars_ba4f3_49 : decode cJ6_getChars_ba4f3 49 = .ok (.getstatic 83, 3) := by decide +kernel
theorem dJ6_getChars_ba4f3_52 : decode cJ6_getChars_ba4f3 52 = .ok (.iload 4, 2) := by decide +kernel
theorem dJ6_getChars_ba4f3_54 : decode cJ6_getChars_ba4f3 54 = .ok (.baload, 1) := by decide +kernel
theorem dJ6_getChars_ba4f3_55 : decode cJ6_getChars_ba4f3 55 = .ok (.bastore, 1) := by decide +kernel
theorem dJ6_getChars_ba4f3_56 : decode cJ6_getChars_ba4f3 56 = .ok (.aload_n 2, 1) := by decide +kernel
theorem dJ6_getChars_ba4f3_57 : decode cJ6_getChars_ba4f3 57 = .ok (.iinc 5 (-1), 3) := by decide +kernel
theorem dJ6_getChars_ba4f3_60 : decode cJ6_getChars_ba4f3 60 = .ok (.iload 5, 2) := by decide +kernel
theorem dJ6_getChars_ba4f3_62 : decode cJ6_getChars_ba4f3 62 = .ok (.getstatic 87, 3) := by decide +kernel
theorem dJ6_getChars_ba4f3_65 : decode cJ6_getChars_ba4f3 65 = .ok (.iload 4, 2) := by decide +kernel
theorem dJ6_getChars_ba4f3_67 : decode cJ6_getChars_ba4f3 67 = .ok (.baload, 1) := by decide +kernel
theorem dJ6_getChars_ba4f3_68 : decode cJ6_getChars_ba4f3 68 = .ok (.bastore, 1) := by decide +kernel
theorem dJ6_getChars_ba4f3_69 : decode cJ6_getChars_ba4f3 69 = .ok (.goto (-47), 3) := by decide +kernel
theorem dJ6_getChars_ba4f3_72 : decode cJ6_getChars_ba4f3 72 = .ok (.aload_n 2, 1) := by decide +kernel
theorem dJ6_getChars_ba4f3_73 : decode cJ6_getChars_ba4f3 73 = .ok (.iinc 5 (-1), 3) := by decide +kernel
theorem dJ6_getChars_ba4f3_76 : decode cJ6_getChars_ba4f3 76 = .ok (.iload 5, 2) := by decide +kernel
theorem dJ6_getChars_ba4f3_78 : decode cJ6_getChars_ba4f3 78 = .ok (.getstatic 83, 3) := by decide +kernel
theorem dJ6_getChars_ba4f3_81 : decode cJ6_getChars_ba4f3 81 = .ok (.iload_n 0, 1) := by decide +kernel
theorem dJ6_getChars_ba4f3_82 : decode cJ6_getChars_ba4f3 82 = .ok (.ineg, 1) := by decide +kernel
theorem dJ6_getChars_ba4f3_83 : decode cJ6_getChars_ba4f3 83 = .ok (.baload, 1) := by decide +kernel
theorem dJ6_getChars_ba4f3_84 : decode cJ6_getChars_ba4f3 84 = .ok (.bastore, 1) := by decide +kernel
theorem dJ6_getChars_ba4f3_85 : decode cJ6_getChars_ba4f3 85 = .ok (.iload_n 0, 1) := by decide +kernel
theorem dJ6_getChars_ba4f3_86 : decode cJ6_getChars_ba4f3 86 = .ok (.bipush (-9), 2) := by decide +kernel
theorem dJ6_getChars_ba4f3_88 : decode cJ6_getChars_ba4f3 88 = .ok (.if_icmp .ge 16, 3) := by decide +kernel
theorem dJ6_getChars_ba4f3_91 : decode cJ6_getChars_ba4f3 91 = .ok (.aload_n 2, 1) := by decide +kernel
theorem dJ6_getChars_ba4f3_92 : decode cJ6_getChars_ba4f3 92 = .ok (.iinc 5 (-1), 3) := by decide +kernel
theorem dJ6_getChars_ba4f3_95 : decode cJ6_getChars_ba4f3 95 = .ok (.iload 5, 2) := by decide +kernel
theorem dJ6_getChars_ba4f3_97 : decode cJ6_getChars_ba4f3 97 = .ok (.getstatic 87, 3) := by decide +kernel
theorem dJ6_getChars_ba4f3_100 : decode cJ6_getChars_ba4f3 100 = .ok (.iload_n 0, 1) := by decide +kernel
theorem dJ6_getChars_ba4f3_101 : decode cJ6_getChars_ba4f3 101 = .ok (.ineg, 1) := by decide +kernel
theorem dJ6_getChars_ba4f3_102 : decode cJ6_getChars_ba4f3 102 = .ok (.baload, 1) := by decide +kernel
theorem dJ6_getChars_ba4f3_103 : decode cJ6_getChars_ba4f3 103 = .ok (.bastore, 1) := by decide +kernel
theorem dJ6_getChars_ba4f3_104 : decode cJ6_getChars_ba4f3 104 = .ok (.iload 6, 2) := by decide +kernel
theorem dJ6_getChars_ba4f3_106 : decode cJ6_getChars_ba4f3 106 = .ok (.ifCond .eq 12, 3) := by decide +kernel
theorem dJ6_getChars_ba4f3_109 : decode cJ6_getChars_ba4f3 109 = .ok (.aload_n 2, 1) := by decide +kernel
theorem dJ6_getChars_ba4f3_110 : decode cJ6_getChars_ba4f3 110 = .ok (.iinc 5 (-1), 3) := by decide +kernel
theorem dJ6_getChars_ba4f3_113 : decode cJ6_getChars_ba4f3 113 = .ok (.iload 5, 2) := by decide +kernel
theorem dJ6_getChars_ba4f3_115 : decode cJ6_getChars_ba4f3 115 = .ok (.bipush 45, 2) := by decide +kernel
theorem dJ6_getChars_ba4f3_117 : decode cJ6_getChars_ba4f3 117 = .ok (.bastore, 1) := by decide +kernel
theorem dJ6_getChars_ba4f3_118 : decode cJ6_getChars_ba4f3 118 = .ok (.iload 5, 2) := by decide +kernel
theorem dJ6_getChars_ba4f3_120 : decode cJ6_getChars_ba4f3 120 = .ok (.ireturn, 1) := by decide +kernel
theorem dJ6_stringSize_0f7a4_0 : decode cJ6_stringSize_0f7a4 0 = .ok (.iconst 1, 1) := by decide +kernel
theorem dJ6_stringSize_0f7a4_1 : decode cJ6_stringSize_0f7a4 1 = .ok (.istore_n 1, 1) := by decide +kernel
theorem dJ6_stringSize_0f7a4_2 : decode cJ6_stringSize_0f7a4 2 = .ok (.iload_n 0, 1) := by decide +kernel
theorem dJ6_stringSize_0f7a4_3 : decode cJ6_stringSize_0f7a4 3 = .ok (.ifCond .lt 8, 3) := by decide +kernel
theorem dJ6_stringSize_0f7a4_6 : decode cJ6_stringSize_0f7a4 6 = .ok (.iconst 0, 1) := by decide +kernel
theorem dJ6_stringSize_0f7a4_7 : decode cJ6_stringSize_0f7a4 7 = .ok (.istore_n 1, 1) := by decide +kernel
theorem dJ6_stringSize_0f7a4_8 : decode cJ6_stringSize_0f7a4 8 = .ok (.iload_n 0, 1) := by decide +kernel
theorem dJ6_stringSize_0f7a4_9 : decode cJ6_stringSize_0f7a4 9 = .ok (.ineg, 1) := by decide +kernel
theorem dJ6_stringSize_0f7a4_10 : decode cJ6_stringSize_0f7a4 10 = .ok (.istore_n 0, 1) := by decide +kernel
theorem dJ6_stringSize_0f7a4_11 : decode cJ6_stringSize_0f7a4 11 = .ok (.bipush (-10), 2) := by decide +kernel
theorem dJ6_stringSize_0f7a4_13 : decode cJ6_stringSize_0f7a4 13 = .ok (.istore_n 2, 1) := by decide +kernel
theorem dJ6_stringSize_0f7a4_14 : decode cJ6_stringSize_0f7a4 14 = .ok (.iconst 1, 1) := by decide +kernel
theorem dJ6_stringSize_0f7a4_15 : decode cJ6_stringSize_0f7a4 15 = .ok (.istore_n 3, 1) := by decide +kernel
theorem dJ6_stringSize_0f7a4_16 : decode cJ6_stringSize_0f7a4 16 = .ok (.iload_n 3, 1) := by decide +kernel
theorem dJ6_stringSize_0f7a4_17 : decode cJ6_stringSize_0f7a4 17 = .ok (.bipush 10, 2) := by decide +kernel
theorem dJ6_stringSize_0f7a4_19 : decode cJ6_stringSize_0f7a4 19 = .ok (.if_icmp .ge 23, 3) := by decide +kernel
theorem dJ6_stringSize_0f7a4_22 : decode cJ6_stringSize_0f7a4 22 = .ok (.iload_n 0, 1) := by decide +kernel
theorem dJ6_stringSize_0f7a4_23 : decode cJ6_stringSize_0f7a4 23 = .ok (.iload_n 2, 1) := by decide +kernel
theorem dJ6_stringSize_0f7a4_24 : decode cJ6_stringSize_0f7a4 24 = .ok (.if_icmp .le 7, 3) := by decide +kernel
theorem dJ6_stringSize_0f7a4_27 : decode cJ6_stringSize_0f7a4 27 = .ok (.iload_n 3, 1) := by decide +kernel
theorem dJ6_stringSize_0f7a4_28 : decode cJ6_stringSize_0f7a4 28 = .ok (.iload_n 1, 1) := by decide +kernel
theorem dJ6_stringSize_0f7a4_29 : decode cJ6_stringSize_0f7a4 29 = .ok (.iadd, 1) := by decide +kernel
theorem dJ6_stringSize_0f7a4_30 : decode cJ6_stringSize_0f7a4 30 = .ok (.ireturn, 1) := by decide +kernel
theorem dJ6_stringSize_0f7a4_31 : decode cJ6_stringSize_0f7a4 31 = .ok (.bipush 10, 2) := by decide +kernel
theorem dJ6_stringSize_0f7a4_33 : decode cJ6_stringSize_0f7a4 33 = .ok (.iload_n 2, 1) := by decide +kernel
theorem dJ6_stringSize_0f7a4_34 : decode cJ6_stringSize_0f7a4 34 = .ok (.imul, 1) := by decide +kernel
theorem dJ6_stringSize_0f7a4_35 : decode cJ6_stringSize_0f7a4 35 = .ok (.istore_n 2, 1) := by decide +kernel
theorem dJ6_stringSize_0f7a4_36 : decode cJ6_stringSize_0f7a4 36 = .ok (.iinc 3 1, 3) := by decide +kernel
theorem dJ6_stringSize_0f7a4_39 : decode cJ6_stringSize_0f7a4 39 = .ok (.goto (-23), 3) := by decide +kernel
theorem dJ6_stringSize_0f7a4_42 : decode cJ6_stringSize_0f7a4 42 = .ok (.bipush 10, 2) := by decide +kernel
theorem dJ6_stringSize_0f7a4_44 : decode cJ6_stringSize_0f7a4 44 = .ok (.iload_n 1, 1) := by decide +kernel
theorem dJ6_stringSize_0f7a4_45 : decode cJ6_stringSize_0f7a4 45 = .ok (.iadd, 1) := by decide +kernel
theorem dJ6_stringSize_0f7a4_46 : decode cJ6_stringSize_0f7a4 46 = .ok (.ireturn, 1) := by decide +kernel
theorem dJ7_checkLength_df160_0 : decode cJ7_checkLength_df160 0 = .ok (.iload_n 1, 1) := by decide +kernel
theorem dJ7_checkLength_df160_1 : decode cJ7_checkLength_df160 1 = .ok (.iload_n 0, 1) := by decide +kernel
theorem dJ7_checkLength_df160_2 : decode cJ7_checkLength_df160 2 = .ok (.if_icmp .ge 35, 3) := by decide +kernel
theorem dJ7_checkLength_df160_5 : decode cJ7_checkLength_df160 5 = .ok (.new 43, 3) := by decide +kernel
theorem dJ7_checkLength_df160_8 : decode cJ7_checkLength_df160 8 = .ok (.dup, 1) := by decide +kernel
theorem dJ7_checkLength_df160_9 : decode cJ7_checkLength_df160 9 = .ok (.new 45, 3) := by decide +kernel
theorem dJ7_checkLength_df160_12 : decode cJ7_checkLength_df160 12 = .ok (.dup, 1) := by decide +kernel
theorem dJ7_checkLength_df160_13 : decode cJ7_checkLength_df160 13 = .ok (.invokespecial 47, 3) := by decide +kernel
theorem dJ7_checkLength_df160_16 : decode cJ7_checkLength_df160 16 = .ok (.iload_n 0, 1) := by decide +kernel
theorem dJ7_checkLength_df160_17 : decode cJ7_checkLength_df160 17 = .ok (.invokevirtual 54, 3) := by decide +kernel
theorem dJ7_checkLength_df160_20 : decode cJ7_checkLength_df160 20 = .ok (.ldc_w 337, 3) := by decide +kernel
theorem dJ7_checkLength_df160_23 : decode cJ7_checkLength_df160 23 = .ok (.invokevirtual 50, 3) := by decide +kernel
theorem dJ7_checkLength_df160_26 : decode cJ7_checkLength_df160 26 = .ok (.iload_n 1, 1) := by decide +kernel
theorem dJ7_checkLength_df160_27 : decode cJ7_checkLength_df160 27 = .ok (.invokevirtual 54, 3) := by decide +kernel
theorem dJ7_checkLength_df160_30 : decode cJ7_checkLength_df160 30 = .ok (.invokevirtual 61, 3) := by decide +kernel
theorem dJ7_checkLength_df160_33 : decode cJ7_checkLength_df160 33 = .ok (.invokespecial 65, 3) := by decide +kernel
theorem dJ7_checkLength_df160_36 : decode cJ7_checkLength_df160 36 = .ok (.athrow, 1) := by decide +kernel
theorem dJ7_checkLength_df160_37 : decode cJ7_checkLength_df160 37 = .ok (.return_, 1) := by decide +kernel
theorem dJ7_copyOfRangeByte_39247_0 : decode cJ7_copyOfRangeByte_39247 0 = .ok (.iload_n 1, 1) := by decide +kernel
theorem dJ7_copyOfRangeByte_39247_1 : decode cJ7_copyOfRangeByte_39247 1 = .ok (.iload_n 2, 1) := by decide +kernel
theorem dJ7_copyOfRangeByte_39247_2 : decode cJ7_copyOfRangeByte_39247 2 = .ok (.invokestatic 343, 3) := by decide +kernel
theorem dJ7_copyOfRangeByte_39247_5 : decode cJ7_copyOfRangeByte_39247 5 = .ok (.iload_n 2, 1) := by decide +kernel
theorem dJ7_copyOfRangeByte_39247_6 : decode cJ7_copyOfRangeByte_39247 6 = .ok (.iload_n 1, 1) := by decide +kernel
theorem dJ7_copyOfRangeByte_39247_7 : decode cJ7_copyOfRangeByte_39247 7 = .ok (.isub, 1) := by decide +kernel
theorem dJ7_copyOfRangeByte_39247_8 : decode cJ7_copyOfRangeByte_39247 8 = .ok (.istore_n 3, 1) := by decide +kernel
theorem dJ7_copyOfRangeByte_39247_9 : decode cJ7_copyOfRangeByte_39247 9 = .ok (.iload_n 3, 1) := by decide +kernel
theorem dJ7_copyOfRangeByte_39247_10 : decode cJ7_copyOfRangeByte_39247 10 = .ok (.newarray .byte, 2) := by decide +kernel
theorem dJ7_copyOfRangeByte_39247_12 : decode cJ7_copyOfRangeByte_39247 12 = .ok (.astore 4, 2) := by decide +kernel
theorem dJ7_copyOfRangeByte_39247_14 : decode cJ7_copyOfRangeByte_39247 14 = .ok (.aload_n 0, 1) := by decide +kernel
theorem dJ7_copyOfRangeByte_39247_15 : decode cJ7_copyOfRangeByte_39247 15 = .ok (.iload_n 1, 1) := by decide +kernel
theorem dJ7_copyOfRangeByte_39247_16 : decode cJ7_copyOfRangeByte_39247 16 = .ok (.aload 4, 2) := by decide +kernel
theorem dJ7_copyOfRangeByte_39247_18 : decode cJ7_copyOfRangeByte_39247 18 = .ok (.iconst 0, 1) := by decide +kernel
theorem dJ7_copyOfRangeByte_39247_19 : decode cJ7_copyOfRangeByte_39247 19 = .ok (.aload_n 0, 1) := by decide +kernel
theorem dJ7_copyOfRangeByte_39247_20 : decode cJ7_copyOfRangeByte_39247 20 = .ok (.arraylength, 1) := by decide +kernel
theorem dJ7_copyOfRangeByte_39247_21 : decode cJ7_copyOfRangeByte_39247 21 = .ok (.iload_n 1, 1) := by decide +kernel
theorem dJ7_copyOfRangeByte_39247_22 : decode cJ7_copyOfRangeByte_39247 22 = .ok (.isub, 1) := by decide +kernel
theorem dJ7_copyOfRangeByte_39247_23 : decode cJ7_copyOfRangeByte_39247 23 = .ok (.iload_n 3, 1) := by decide +kernel
theorem dJ7_copyOfRangeByte_39247_24 : decode cJ7_copyOfRangeByte_39247 24 = .ok (.invokestatic 304, 3) := by decide +kernel
theorem dJ7_copyOfRangeByte_39247_27 : decode cJ7_copyOfRangeByte_39247 27 = .ok (.invokestatic 150, 3) := by decide +kernel
theorem dJ7_copyOfRangeByte_39247_30 : decode cJ7_copyOfRangeByte_39247 30 = .ok (.aload 4, 2) := by decide +kernel
theorem dJ7_copyOfRangeByte_39247_32 : decode cJ7_copyOfRangeByte_39247 32 = .ok (.areturn, 1) := by decide +kernel
theorem dJ7_copyOfRange_39247_0 : decode cJ7_copyOfRange_39247 0 = .ok (.iload_n 1, 1) := by decide +kernel
theorem dJ7_copyOfRange_39247_1 : decode cJ7_copyOfRange_39247 1 = .ok (.ifCond .ne 9, 3) := by decide +kernel
theorem dJ7_copyOfRange_39247_4 : decode cJ7_copyOfRange_39247 4 = .ok (.iload_n 2, 1) := by decide +kernel
theorem dJ7_copyOfRange_39247_5 : decode cJ7_copyOfRange_39247 5 = .ok (.aload_n 0, 1) := by decide +kernel
theorem dJ7_copyOfRange_39247_6 : decode cJ7_copyOfRange_39247 6 = .ok (.arraylength, 1) := by decide +kernel
theorem dJ7_copyOfRange_39247_7 : decode cJ7_copyOfRange_39247 7 = .ok (.if_icmp .eq 10, 3) := by decide +kernel
theorem dJ7_copyOfRange_39247_10 : decode cJ7_copyOfRange_39247 10 = .ok (.aload_n 0, 1) := by decide +kernel
theorem dJ7_copyOfRange_39247_11 : decode cJ7_copyOfRange_39247 11 = .ok (.iload_n 1, 1) := by decide +kernel
theorem dJ7_copyOfRange_39247_12 : decode cJ7_copyOfRange_39247 12 = .ok (.iload_n 2, 1) := by decide +kernel
theorem dJ7_copyOfRange_39247_13 : decode cJ7_copyOfRange_39247 13 = .ok (.invokestatic 339, 3) := by decide +kernel
theorem dJ7_copyOfRange_39247_16 : decode cJ7_copyOfRange_39247 16 = .ok (.areturn, 1) := by decide +kernel
theorem dJ7_copyOfRange_39247_17 : decode cJ7_copyOfRange_39247 17 = .ok (.aload_n 0, 1) := by decide +kernel
theorem dJ7_copyOfRange_39247_18 : decode cJ7_copyOfRange_39247 18 = .ok (.invokevirtual 310, 3) := by decide +kernel
theorem dJ7_copyOfRange_39247_21 : decode cJ7_copyOfRange_39247 21 = .ok (.checkcast 311, 3) := by decide +kernel
theorem dJ7_copyOfRange_39247_24 : decode cJ7_copyOfRange_39247 24 = .ok (.areturn, 1) := by decide +kernel
theorem dJ7_copyOf_9075b_0 : decode cJ7_copyOf_9075b 0 = .ok (.iload_n 1, 1) := by decide +kernel
theorem dJ7_copyOf_9075b_1 : decode cJ7_copyOf_9075b 1 = .ok (.aload_n 0, 1) := by decide +kernel
theorem dJ7_copyOf_9075b_2 : decode cJ7_copyOf_9075b 2 = .ok (.arraylength, 1) := by decide +kernel
theorem dJ7_copyOf_9075b_3 : decode cJ7_copyOf_9075b 3 = .ok (.if_icmp .ne 11, 3) := by decide +kernel
theorem dJ7_copyOf_9075b_6 : decode cJ7_copyOf_9075b 6 = .ok (.aload_n 0, 1) := by decide +kernel
theorem dJ7_copyOf_9075b_7 : decode cJ7_copyOf_9075b 7 = .ok (.invokevirtual 310, 3) := by decide +kernel
theorem dJ7_copyOf_9075b_10 : decode cJ7_copyOf_9075b 10 = .ok (.checkcast 311, 3) := by decide +kernel
theorem dJ7_copyOf_9075b_13 : decode cJ7_copyOf_9075b 13 = .ok (.areturn, 1) := by decide +kernel
theorem dJ7_copyOf_9075b_14 : decode cJ7_copyOf_9075b 14 = .ok (.iload_n 1, 1) := by decide +kernel
theorem dJ7_copyOf_9075b_15 : decode cJ7_copyOf_9075b 15 = .ok (.newarray .byte, 2) := by decide +kernel
theorem dJ7_copyOf_9075b_17 : decode cJ7_copyOf_9075b 17 = .ok (.astore_n 2, 1) := by decide +kernel
theorem dJ7_copyOf_9075b_18 : decode cJ7_copyOf_9075b 18 = .ok (.aload_n 0, 1) := by decide +kernel
theorem dJ7_copyOf_9075b_19 : decode cJ7_copyOf_9075b 19 = .ok (.iconst 0, 1) := by decide +kernel
theorem dJ7_copyOf_9075b_20 : decode cJ7_copyOf_9075b 20 = .ok (.aload_n 2, 1) := by decide +kernel
theorem dJ7_copyOf_9075b_21 : decode cJ7_copyOf_9075b 21 = .ok (.iconst 0, 1) := by decide +kernel
theorem dJ7_copyOf_9075b_22 : decode cJ7_copyOf_9075b 22 = .ok (.aload_n 0, 1) := by decide +kernel
theorem dJ7_copyOf_9075b_23 : decode cJ7_copyOf_9075b 23 = .ok (.arraylength, 1) := by decide +kernel
theorem dJ7_copyOf_9075b_24 : decode cJ7_copyOf_9075b 24 = .ok (.iload_n 1, 1) := by decide +kernel
theorem dJ7_copyOf_9075b_25 : decode cJ7_copyOf_9075b 25 = .ok (.invokestatic 304, 3) := by decide +kernel
theorem dJ7_copyOf_9075b_28 : decode cJ7_copyOf_9075b 28 = .ok (.invokestatic 150, 3) := by decide +kernel
theorem dJ7_copyOf_9075b_31 : decode cJ7_copyOf_9075b 31 = .ok (.aload_n 2, 1) := by decide +kernel
theorem dJ7_copyOf_9075b_32 : decode cJ7_copyOf_9075b 32 = .ok (.areturn, 1) := by decide +kernel
theorem dJ7_fill_53178_0 : decode cJ7_fill_53178 0 = .ok (.iconst 0, 1) := by decide +kernel
theorem dJ7_fill_53178_1 : decode cJ7_fill_53178 1 = .ok (.istore_n 2, 1) := by decide +kernel
theorem dJ7_fill_53178_2 : decode cJ7_fill_53178 2 = .ok (.aload_n 0, 1) := by decide +kernel
theorem dJ7_fill_53178_3 : decode cJ7_fill_53178 3 = .ok (.arraylength, 1) := by decide +kernel
theorem dJ7_fill_53178_4 : decode cJ7_fill_53178 4 = .ok (.istore_n 3, 1) := by decide +kernel
theorem dJ7_fill_53178_5 : decode cJ7_fill_53178 5 = .ok (.iload_n 2, 1) := by decide +kernel
theorem dJ7_fill_53178_6 : decode cJ7_fill_53178 6 = .ok (.iload_n 3, 1) := by decide +kernel
theorem dJ7_fill_53178_7 : decode cJ7_fill_53178 7 = .ok (.if_icmp .ge 13, 3) := by decide +kernel
theorem dJ7_fill_53178_10 : decode cJ7_fill_53178 10 = .ok (.aload_n 0, 1) := by decide +kernel
theorem dJ7_fill_53178_11 : decode cJ7_fill_53178 11 = .ok (.iload_n 2, 1) := by decide +kernel
theorem dJ7_fill_53178_12 : decode cJ7_fill_53178 12 = .ok (.iload_n 1, 1) := by decide +kernel
theorem dJ7_fill_53178_13 : decode cJ7_fill_53178 13 = .ok (.iastore, 1) := by decide +kernel
theorem dJ7_fill_53178_14 : decode cJ7_fill_53178 14 = .ok (.iinc 2 1, 3) := by decide +kernel
theorem dJ7_fill_53178_17 : decode cJ7_fill_53178 17 = .ok (.goto (-12), 3) := by decide +kernel
theorem dJ7_fill_53178_20 : decode cJ7_fill_53178 20 = .ok (.return_, 1) := by decide +kernel
theorem dJ7_fill_d0a16_0 : decode cJ7_fill_d0a16 0 = .ok (.iconst 0, 1) := by decide +kernel
theorem dJ7_fill_d0a16_1 : decode cJ7_fill_d0a16 1 = .ok (.istore_n 3, 1) := by decide +kernel
theorem dJ7_fill_d0a16_2 : decode cJ7_fill_d0a16 2 = .ok (.aload_n 0, 1) := by decide +kernel
theorem dJ7_fill_d0a16_3 : decode cJ7_fill_d0a16 3 = .ok (.arraylength, 1) := by decide +kernel
theorem dJ7_fill_d0a16_4 : decode cJ7_fill_d0a16 4 = .ok (.istore 4, 2) := by decide +kernel
theorem dJ7_fill_d0a16_6 : decode cJ7_fill_d0a16 6 = .ok (.iload_n 3, 1) := by decide +kernel
theorem dJ7_fill_d0a16_7 : decode cJ7_fill_d0a16 7 = .ok (.iload 4, 2) := by decide +kernel
theorem dJ7_fill_d0a16_9 : decode cJ7_fill_d0a16 9 = .ok (.if_icmp .ge 13, 3) := by decide +kernel
theorem dJ7_fill_d0a16_12 : decode cJ7_fill_d0a16 12 = .ok (.aload_n 0, 1) := by decide +kernel
theorem dJ7_fill_d0a16_13 : decode cJ7_fill_d0a16 13 = .ok (.iload_n 3, 1) := by decide +kernel
theorem dJ7_fill_d0a16_14 : decode cJ7_fill_d0a16 14 = .ok (.lload_n 1, 1) := by decide +kernel
theorem dJ7_fill_d0a16_15 : decode cJ7_fill_d0a16 15 = .ok (.lastore, 1) := by decide +kernel
theorem dJ7_fill_d0a16_16 : decode cJ7_fill_d0a16 16 = .ok (.iinc 3 1, 3) := by decide +kernel
theorem dJ7_fill_d0a16_19 : decode cJ7_fill_d0a16 19 = .ok (.goto (-13), 3) := by decide +kernel
theorem dJ7_fill_d0a16_22 : decode cJ7_fill_d0a16 22 = .ok (.return_, 1) := by decide +kernel
theorem dJ8_hugeLength_7cf53_0 : decode cJ8_hugeLength_7cf53 0 = .ok (.iload_n 0, 1) := by decide +kernel
theorem dJ8_hugeLength_7cf53_1 : decode cJ8_hugeLength_7cf53 1 = .ok (.iload_n 1, 1) := by decide +kernel
theorem dJ8_hugeLength_7cf53_2 : decode cJ8_hugeLength_7cf53 2 = .ok (.iadd, 1) := by decide +kernel
theorem dJ8_hugeLength_7cf53_3 : decode cJ8_hugeLength_7cf53 3 = .ok (.istore_n 2, 1) := by decide +kernel
theorem dJ8_hugeLength_7cf53_4 : decode cJ8_hugeLength_7cf53 4 = .ok (.iload_n 2, 1) := by decide +kernel
theorem dJ8_hugeLength_7cf53_5 : decode cJ8_hugeLength_7cf53 5 = .ok (.ifCond .ge 44, 3) := by decide +kernel
theorem dJ8_hugeLength_7cf53_8 : decode cJ8_hugeLength_7cf53 8 = .ok (.new 204, 3) := by decide +kernel
theorem dJ8_hugeLength_7cf53_11 : decode cJ8_hugeLength_7cf53 11 = .ok (.dup, 1) := by decide +kernel
theorem dJ8_hugeLength_7cf53_12 : decode cJ8_hugeLength_7cf53 12 = .ok (.new 89, 3) := by decide +kernel
theorem dJ8_hugeLength_7cf53_15 : decode cJ8_hugeLength_7cf53 15 = .ok (.dup, 1) := by decide +kernel
theorem dJ8_hugeLength_7cf53_16 : decode cJ8_hugeLength_7cf53 16 = .ok (.invokespecial 91, 3) := by decide +kernel
theorem dJ8_hugeLength_7cf53_19 : decode cJ8_hugeLength_7cf53 19 = .ok (.ldc 206, 2) := by decide +kernel
theorem dJ8_hugeLength_7cf53_21 : decode cJ8_hugeLength_7cf53 21 = .ok (.invokevirtual 94, 3) := by decide +kernel
theorem dJ8_hugeLength_7cf53_24 : decode cJ8_hugeLength_7cf53 24 = .ok (.iload_n 0, 1) := by decide +kernel
theorem dJ8_hugeLength_7cf53_25 : decode cJ8_hugeLength_7cf53 25 = .ok (.invokevirtual 98, 3) := by decide +kernel
theorem dJ8_hugeLength_7cf53_28 : decode cJ8_hugeLength_7cf53 28 = .ok (.ldc 208, 2) := by decide +kernel
theorem dJ8_hugeLength_7cf53_30 : decode cJ8_hugeLength_7cf53 30 = .ok (.invokevirtual 94, 3) := by decide +kernel
theorem dJ8_hugeLength_7cf53_33 : decode cJ8_hugeLength_7cf53 33 = .ok (.iload_n 1, 1) := by decide +kernel
theorem dJ8_hugeLength_7cf53_34 : decode cJ8_hugeLength_7cf53 34 = .ok (.invokevirtual 98, 3) := by decide +kernel
theorem dJ8_hugeLength_7cf53_37 : decode cJ8_hugeLength_7cf53 37 = .ok (.ldc 210, 2) := by decide +kernel
theorem dJ8_hugeLength_7cf53_39 : decode cJ8_hugeLength_7cf53 39 = .ok (.invokevirtual 94, 3) := by decide +kernel
theorem dJ8_hugeLength_7cf53_42 : decode cJ8_hugeLength_7cf53 42 = .ok (.invokevirtual 101, 3) := by decide +kernel
theorem dJ8_hugeLength_7cf53_45 : decode cJ8_hugeLength_7cf53 45 = .ok (.invokespecial 212, 3) := by decide +kernel
theorem dJ8_hugeLength_7cf53_48 : decode cJ8_hugeLength_7cf53 48 = .ok (.athrow, 1) := by decide +kernel
theorem dJ8_hugeLength_7cf53_49 : decode cJ8_hugeLength_7cf53 49 = .ok (.iload_n 2, 1) := by decide +kernel
theorem dJ8_hugeLength_7cf53_50 : decode cJ8_hugeLength_7cf53 50 = .ok (.ldc 200, 2) := by decide +kernel
theorem dJ8_hugeLength_7cf53_52 : decode cJ8_hugeLength_7cf53 52 = .ok (.if_icmp .gt 6, 3) := by decide +kernel
theorem dJ8_hugeLength_7cf53_55 : decode cJ8_hugeLength_7cf53 55 = .ok (.ldc 200, 2) := by decide +kernel
theorem dJ8_hugeLength_7cf53_57 : decode cJ8_hugeLength_7cf53 57 = .ok (.ireturn, 1) := by decide +kernel
theorem dJ8_hugeLength_7cf53_58 : decode cJ8_hugeLength_7cf53 58 = .ok (.iload_n 2, 1) := by decide +kernel
theorem dJ8_hugeLength_7cf53_59 : decode cJ8_hugeLength_7cf53 59 = .ok (.ireturn, 1) := by decide +kernel
theorem dJ8_newLength_cabcc_0 : decode cJ8_newLength_cabcc 0 = .ok (.iload_n 0, 1) := by decide +kernel
theorem dJ8_newLength_cabcc_1 : decode cJ8_newLength_cabcc 1 = .ok (.iload_n 1, 1) := by decide +kernel
theorem dJ8_newLength_cabcc_2 : decode cJ8_newLength_cabcc 2 = .ok (.iload_n 2, 1) := by decide +kernel
theorem dJ8_newLength_cabcc_3 : decode cJ8_newLength_cabcc 3 = .ok (.invokestatic 194, 3) := by decide +kernel
theorem dJ8_newLength_cabcc_6 : decode cJ8_newLength_cabcc 6 = .ok (.iadd, 1) := by decide +kernel
theorem dJ8_newLength_cabcc_7 : decode cJ8_newLength_cabcc 7 = .ok (.istore_n 3, 1) := by decide +kernel
theorem dJ8_newLength_cabcc_8 : decode cJ8_newLength_cabcc 8 = .ok (.iconst 0, 1) := by decide +kernel
theorem dJ8_newLength_cabcc_9 : decode cJ8_newLength_cabcc 9 = .ok (.iload_n 3, 1) := by decide +kernel
theorem dJ8_newLength_cabcc_10 : decode cJ8_newLength_cabcc 10 = .ok (.if_icmp .ge 11, 3) := by decide +kernel
theorem dJ8_newLength_cabcc_13 : decode cJ8_newLength_cabcc 13 = .ok (.iload_n 3, 1) := by decide +kernel
theorem dJ8_newLength_cabcc_14 : decode cJ8_newLength_cabcc 14 = .ok (.ldc 200, 2) := by decide +kernel
theorem dJ8_newLength_cabcc_16 : decode cJ8_newLength_cabcc 16 = .ok (.if_icmp .gt 5, 3) := by decide +kernel
theorem dJ8_newLength_cabcc_19 : decode cJ8_newLength_cabcc 19 = .ok (.iload_n 3, 1) := by decide +kernel
theorem dJ8_newLength_cabcc_20 : decode cJ8_newLength_cabcc 20 = .ok (.ireturn, 1) := by decide +kernel
theorem dJ8_newLength_cabcc_21 : decode cJ8_newLength_cabcc 21 = .ok (.iload_n 0, 1) := by decide +kernel
theorem dJ8_newLength_cabcc_22 : decode cJ8_newLength_cabcc 22 = .ok (.iload_n 1, 1) := by decide +kernel
theorem dJ8_newLength_cabcc_23 : decode cJ8_newLength_cabcc 23 = .ok (.invokestatic 201, 3) := by decide +kernel
theorem dJ8_newLength_cabcc_26 : decode cJ8_newLength_cabcc 26 = .ok (.ireturn, 1) := by decide +kernel
theorem dJ9_abs_067f4_0 : decode cJ9_abs_067f4 0 = .ok (.lload_n 0, 1) := by decide +kernel
theorem dJ9_abs_067f4_1 : decode cJ9_abs_067f4 1 = .ok (.lconst 0, 1) := by decide +kernel
theorem dJ9_abs_067f4_2 : decode cJ9_abs_067f4 2 = .ok (.lcmp, 1) := by decide +kernel
theorem dJ9_abs_067f4_3 : decode cJ9_abs_067f4 3 = .ok (.ifCond .ge 8, 3) := by decide +kernel
theorem dJ9_abs_067f4_6 : decode cJ9_abs_067f4 6 = .ok (.lload_n 0, 1) := by decide +kernel
theorem dJ9_abs_067f4_7 : decode cJ9_abs_067f4 7 = .ok (.lneg, 1) := by decide +kernel
theorem dJ9_abs_067f4_8 : decode cJ9_abs_067f4 8 = .ok (.goto 4, 3) := by decide +kernel
theorem dJ9_abs_067f4_11 : decode cJ9_abs_067f4 11 = .ok (.lload_n 0, 1) := by decide +kernel
theorem dJ9_abs_067f4_12 : decode cJ9_abs_067f4 12 = .ok (.lreturn, 1) := by decide +kernel
theorem dJ9_max_7cf53_0 : decode cJ9_max_7cf53 0 = .ok (.iload_n 0, 1) := by decide +kernel
theorem dJ9_max_7cf53_1 : decode cJ9_max_7cf53 1 = .ok (.iload_n 1, 1) := by decide +kernel
theorem dJ9_max_7cf53_2 : decode cJ9_max_7cf53 2 = .ok (.if_icmp .lt 7, 3) := by decide +kernel
theorem dJ9_max_7cf53_5 : decode cJ9_max_7cf53 5 = .ok (.iload_n 0, 1) := by decide +kernel
theorem dJ9_max_7cf53_6 : decode cJ9_max_7cf53 6 = .ok (.goto 4, 3) := by decide +kernel
theorem dJ9_max_7cf53_9 : decode cJ9_max_7cf53 9 = .ok (.iload_n 1, 1) := by decide +kernel
theorem dJ9_max_7cf53_10 : decode cJ9_max_7cf53 10 = .ok (.ireturn, 1) := by decide +kernel
theorem dJ9_min_7cf53_0 : decode cJ9_min_7cf53 0 = .ok (.iload_n 0, 1) := by decide +kernel
theorem dJ9_min_7cf53_1 : decode cJ9_min_7cf53 1 = .ok (.iload_n 1, 1) := by decide +kernel
theorem dJ9_min_7cf53_2 : decode cJ9_min_7cf53 2 = .ok (.if_icmp .gt 7, 3) := by decide +kernel
theorem dJ9_min_7cf53_5 : decode cJ9_min_7cf53 5 = .ok (.iload_n 0, 1) := by decide +kernel
theorem dJ9_min_7cf53_6 : decode cJ9_min_7cf53 6 = .ok (.goto 4, 3) := by decide +kernel
theorem dJ9_min_7cf53_9 : decode cJ9_min_7cf53 9 = .ok (.iload_n 1, 1) := by decide +kernel
theorem dJ9_min_7cf53_10 : decode cJ9_min_7cf53 10 = .ok (.ireturn, 1) := by decide +kernel
theorem dJx00060_init_a7421_0 : decode cJx00060_init_a7421 0 = .ok (.aload_n 0, 1) := by decide +kernel
theorem dJx00060_init_a7421_1 : decode cJx00060_init_a7421 1 = .ok (.aload_n 1, 1) := by decide +kernel
theorem dJx00060_init_a7421_2 : decode cJx00060_init_a7421 2 = .ok (.invokespecial 7, 3) := by decide +kernel
theorem dJx00060_init_a7421_5 : decode cJx00060_init_a7421 5 = .ok (.return_, 1) := by decide +kernel
theorem dL_call_0 : decode cL_call 0 = .ok (.iload_n 1, 1) := by decide +kernel
theorem dL_call_1 : decode cL_call 1 = .ok (.tableswitch 592 0 38 #[171, 179, 187, 218, 225, 232, 239, 247, 261, 269, 276, 284, 298, 312, 319, 334, 341, 359, 366, 381, 388, 395, 403, 420, 428, 440, 450, 462, 483, 490, 497, 504, 510, 523, 538, 552, 559, 574, 584], 171) := by decide +kernel
theorem dL_call_172 : decode cL_call 172 = .ok (.aload_n 0, 1) := by decide +kernel
theorem dL_call_173 : decode cL_call 173 = .ok (.iload_n 2, 1) := by decide +kernel
theorem dL_call_174 : decode cL_call 174 = .ok (.i2c, 1) := by decide +kernel
theorem dL_call_175 : decode cL_call 175 = .ok (.invokevirtual 9, 3) := by decide +kernel
theorem dL_call_178 : decode cL_call 178 = .ok (.i2l, 1) := by decide +kernel
theorem dL_call_179 : decode cL_call 179 = .ok (.lreturn, 1) := by decide +kernel
theorem dL_call_180 : decode cL_call 180 = .ok (.aload_n 0, 1) := by decide +kernel
theorem dL_call_181 : decode cL_call 181 = .ok (.iload_n 2, 1) := by decide +kernel
theorem dL_call_182 : decode cL_call 182 = .ok (.iload_n 3, 1) := by decide +kernel
theorem dL_call_183 : decode cL_call 183 = .ok (.invokevirtual 15, 3) := by decide +kernel
theorem dL_call_186 : decode cL_call 186 = .ok (.i2l, 1) := by decide +kernel
theorem dL_call_187 : decode cL_call 187 = .ok (.lreturn, 1) := by decide +kernel
theorem dL_call_188 : decode cL_call 188 = .ok (.aload_n 0, 1) := by decide +kernel
theorem dL_call_189 : decode cL_call 189 = .ok (.iload_n 2, 1) := by decide +kernel
theorem dL_call_190 : decode cL_call 190 = .ok (.iload_n 3, 1) := by decide +kernel
theorem dL_call_191 : decode cL_call 191 = .ok (.iload 4, 2) := by decide +kernel
theorem dL_call_193 : decode cL_call 193 = .ok (.i2c, 1) := by decide +kernel
theorem dL_call_194 : decode cL_call 194 = .ok (.iload 5, 2) := by decide +kernel
theorem dL_call_196 : decode cL_call 196 = .ok (.iload 6, 2) := by decide +kernel
theorem dL_call_198 : decode cL_call 198 = .ok (.iconst 1, 1) := by decide +kernel
theorem dL_call_199 : decode cL_call 199 = .ok (.if_icmp .ne 7, 3) := by decide +kernel
theorem dL_call_202 : decode cL_call 202 = .ok (.iconst 1, 1) := by decide +kernel
theorem dL_call_203 : decode cL_call 203 = .ok (.goto 4, 3) := by decide +kernel
theorem dL_call_206 : decode cL_call 206 = .ok (.iconst 0, 1) := by decide +kernel
theorem dL_call_207 : decode cL_call 207 = .ok (.invokevirtual 19, 3) := by decide +kernel
theorem dL_call_210 : decode cL_call 210 = .ok (.ifCond .eq 7, 3) := by decide +kernel
theorem dL_call_213 : decode cL_call 213 = .ok (.lconst 1, 1) := by decide +kernel
theorem dL_call_214 : decode cL_call 214 = .ok (.goto 4, 3) := by decide +kernel
theorem dL_call_217 : decode cL_call 217 = .ok (.lconst 0, 1) := by decide +kernel
theorem dL_call_218 : decode cL_call 218 = .ok (.lreturn, 1) := by decide +kernel
theorem dL_call_219 : decode cL_call 219 = .ok (.aload_n 0, 1) := by decide +kernel
theorem dL_call_220 : decode cL_call 220 = .ok (.iload_n 2, 1) := by decide +kernel
theorem dL_call_221 : decode cL_call 221 = .ok (.invokevirtual 23, 3) := by decide +kernel
theorem dL_call_224 : decode cL_call 224 = .ok (.i2l, 1) := by decide +kernel
theorem dL_call_225 : decode cL_call 225 = .ok (.lreturn, 1) := by decide +kernel
theorem dL_call_226 : decode cL_call 226 = .ok (.aload_n 0, 1) := by decide +kernel
theorem dL_call_227 : decode cL_call 227 = .ok (.iload_n 2, 1) := by decide +kernel
theorem dL_call_228 : decode cL_call 228 = .ok (.invokevirtual 27, 3) := by decide +kernel
theorem dL_call_231 : decode cL_call 231 = .ok (.i2l, 1) := by decide +kernel
theorem dL_call_232 : decode cL_call 232 = .ok (.lreturn, 1) := by decide +kernel
theorem dL_call_233 : decode cL_call 233 = .ok (.aload_n 0, 1) := by decide +kernel
theorem dL_call_234 : decode cL_call 234 = .ok (.iload_n 2, 1) := by decide +kernel
theorem dL_call_235 : decode cL_call 235 = .ok (.invokevirtual 30, 3) := by decide +kernel
theorem dL_call_238 : decode cL_call 238 = .ok (.i2l, 1) := by decide +kernel
theorem dL_call_239 : decode cL_call 239 = .ok (.lreturn, 1) := by decide +kernel
theorem dL_call_240 : decode cL_call 240 = .ok (.aload_n 0, 1) := by decide +kernel
theorem dL_call_241 : decode cL_call 241 = .ok (.iload_n 2, 1) := by decide +kernel
theorem dL_call_242 : decode cL_call 242 = .ok (.iload_n 3, 1) := by decide +kernel
theorem dL_call_243 : decode cL_call 243 = .ok (.invokevirtual 33, 3) := by decide +kernel
theorem dL_call_246 : decode cL_call 246 = .ok (.i2l, 1) := by decide +kernel
theorem dL_call_247 : decode cL_call 247 = .ok (.lreturn, 1) := by decide +kernel
theorem dL_call_248 : decode cL_call 248 = .ok (.aload_n 0, 1) := by decide +kernel
theorem dL_call_249 : decode cL_call 249 = .ok (.iload_n 2, 1) := by decide +kernel
theorem dL_call_250 : decode cL_call 250 = .ok (.invokevirtual 36, 3) := by decide +kernel
theorem dL_call_253 : decode cL_call 253 = .ok (.ifCond .eq 7, 3) := by decide +kernel
theorem dL_call_256 : decode cL_call 256 = .ok (.lconst 1, 1) := by decide +kernel
theorem dL_call_257 : decode cL_call 257 = .ok (.goto 4, 3) := by decide +kernel
theorem dL_call_260 : decode cL_call 260 = .ok (.lconst 0, 1) := by decide +kernel
theorem dL_call_261 : decode cL_call 261 = .ok (.lreturn, 1) := by decide +kernel
theorem dL_call_262 : decode cL_call 262 = .ok (.aload_n 0, 1) := by decide +kernel
theorem dL_call_263 : decode cL_call 263 = .ok (.iload_n 2, 1) := by decide +kernel
theorem dL_call_264 : decode cL_call 264 = .ok (.iload_n 3, 1) := by decide +kernel
theorem dL_call_265 : decode cL_call 265 = .ok (.invokevirtual 40, 3) := by decide +kernel
theorem dL_call_268 : decode cL_call 268 = .ok (.i2l, 1) := by decide +kernel
theorem dL_call_269 : decode cL_call 269 = .ok (.lreturn, 1) := by decide +kernel
theorem dL_call_270 : decode cL_call 270 = .ok (.aload_n 0, 1) := by decide +kernel
theorem dL_call_271 : decode cL_call 271 = .ok (.iload_n 2, 1) := by decide +kernel
theorem dL_call_272 : decode cL_call 272 = .ok (.invokevirtual 43, 3) := by decide +kernel
theorem dL_call_275 : decode cL_call 275 = .ok (.i2l, 1) := by decide +kernel
theorem dL_call_276 : decode cL_call 276 = .ok (.lreturn, 1) := by decide +kernel
theorem dL_call_277 : decode cL_call 277 = .ok (.aload_n 0, 1) := by decide +kernel
theorem dL_call_278 : decode cL_call 278 = .ok (.iload_n 2, 1) := by decide +kernel
theorem dL_call_279 : decode cL_call 279 = .ok (.iload_n 3, 1) := by decide +kernel
theorem dL_call_280 : decode cL_call 280 = .ok (.invokevirtual 46, 3) := by decide +kernel
theorem dL_call_283 : decode cL_call 283 = .ok (.i2l, 1) := by decide +kernel
theorem dL_call_284 : decode cL_call 284 = .ok (.lreturn, 1) := by decide +kernel
theorem dL_call_285 : decode cL_call 285 = .ok (.aload_n 0, 1) := by decide +kernel
theorem dL_call_286 : decode cL_call 286 = .ok (.iload_n 2, 1) := by decide +kernel
theorem dL_call_287 : decode cL_call 287 = .ok (.invokevirtual 49, 3) := by decide +kernel
theorem dL_call_290 : decode cL_call 290 = .ok (.ifCond .eq 7, 3) := by decide +kernel
theorem dL_call_293 : decode cL_call 293 = .ok (.lconst 1, 1) := by decide +kernel
theorem dL_call_294 : decode cL_call 294 = .ok (.goto 4, 3) := by decide +kernel
theorem dL_call_297 : decode cL_call 297 = .ok (.lconst 0, 1) := by decide +kernel
theorem dL_call_298 : decode cL_call 298 = .ok (.lreturn, 1) := by decide +kernel
theorem dL_call_299 : decode cL_call 299 = .ok (.aload_n 0, 1) := by decide +kernel
theorem dL_call_300 : decode cL_call 300 = .ok (.iload_n 2, 1) := by decide +kernel
theorem dL_call_301 : decode cL_call 301 = .ok (.invokevirtual 52, 3) := by decide +kernel
theorem dL_call_304 : decode cL_call 304 = .ok (.ifCond .eq 7, 3) := by decide +kernel
theorem dL_call_307 : decode cL_call 307 = .ok (.lconst 1, 1) := by decide +kernel
theorem dL_call_308 : decode cL_call 308 = .ok (.goto 4, 3) := by decide +kernel
theorem dL_call_311 : decode cL_call 311 = .ok (.lconst 0, 1) := by decide +kernel
theorem dL_call_312 : decode cL_call 312 = .ok (.lreturn, 1) := by decide +kernel
theorem dL_call_313 : decode cL_call 313 = .ok (.aload_n 0, 1) := by decide +kernel
theorem dL_call_314 : decode cL_call 314 = .ok (.iload_n 2, 1) := by decide +kernel
theorem dL_call_315 : decode cL_call 315 = .ok (.invokevirtual 55, 3) := by decide +kernel
theorem dL_call_318 : decode cL_call 318 = .ok (.i2l, 1) := by decide +kernel
theorem dL_call_319 : decode cL_call 319 = .ok (.lreturn, 1) := by decide +kernel
theorem dL_call_320 : decode cL_call 320 = .ok (.aload_n 0, 1) := by decide +kernel
theorem dL_call_321 : decode cL_call 321 = .ok (.iload_n 2, 1) := by decide +kernel
theorem dL_call_322 : decode cL_call 322 = .ok (.iload_n 3, 1) := by decide +kernel
theorem dL_call_323 : decode cL_call 323 = .ok (.invokevirtual 58, 3) := by decide +kernel
theorem dL_call_326 : decode cL_call 326 = .ok (.ifCond .eq 7, 3) := by decide +kernel
theorem dL_call_329 : decode cL_call 329 = .ok (.lconst 1, 1) := by decide +kernel
theorem dL_call_330 : decode cL_call 330 = .ok (.goto 4, 3) := by decide +kernel
theorem dL_call_333 : decode cL_call 333 = .ok (.lconst 0, 1) := by decide +kernel
theorem dL_call_334 : decode cL_call 334 = .ok (.lreturn, 1) := by decide +kernel
theorem dL_call_335 : decode cL_call 335 = .ok (.aload_n 0, 1) := by decide +kernel
theorem dL_call_336 : decode cL_call 336 = .ok (.iload_n 2, 1) := by decide +kernel
theorem dL_call_337 : decode cL_call 337 = .ok (.iload_n 3, 1) := by decide +kernel
theorem dL_call_338 : decode cL_call 338 = .ok (.invokevirtual 62, 3) := by decide +kernel
theorem dL_call_341 : decode cL_call 341 = .ok (.lreturn, 1) := by decide +kernel
theorem dL_call_342 : decode cL_call 342 = .ok (.aload_n 0, 1) := by decide +kernel
theorem dL_call_343 : decode cL_call 343 = .ok (.iload_n 2, 1) := by decide +kernel
theorem dL_call_344 : decode cL_call 344 = .ok (.iload_n 3, 1) := by decide +kernel
theorem dL_call_345 : decode cL_call 345 = .ok (.iload 4, 2) := by decide +kernel
theorem dL_call_347 : decode cL_call 347 = .ok (.iconst 1, 1) := by decide +kernel
theorem dL_call_348 : decode cL_call 348 = .ok (.if_icmp .ne 7, 3) := by decide +kernel
theorem dL_call_351 : decode cL_call 351 = .ok (.iconst 1, 1) := by decide +kernel
theorem dL_call_352 : decode cL_call 352 = .ok (.goto 4, 3) := by decide +kernel
theorem dL_call_355 : decode cL_call 355 = .ok (.iconst 0, 1) := by decide +kernel
theorem dL_call_356 : decode cL_call 356 = .ok (.invokevirtual 66, 3) := by decide +kernel
theorem dL_call_359 : decode cL_call 359 = .ok (.lreturn, 1) := by decide +kernel
theorem dL_call_360 : decode cL_call 360 = .ok (.aload_n 0, 1) := by decide +kernel
theorem dL_call_361 : decode cL_call 361 = .ok (.iload_n 2, 1) := by decide +kernel
theorem dL_call_362 : decode cL_call 362 = .ok (.invokevirtual 70, 3) := by decide +kernel
theorem dL_call_365 : decode cL_call 365 = .ok (.i2l, 1) := by decide +kernel
theorem dL_call_366 : decode cL_call 366 = .ok (.lreturn, 1) := by decide +kernel
theorem dL_call_367 : decode cL_call 367 = .ok (.aload_n 0, 1) := by decide +kernel
theorem dL_call_368 : decode cL_call 368 = .ok (.iload_n 2, 1) := by decide +kernel
theorem dL_call_369 : decode cL_call 369 = .ok (.iload_n 3, 1) := by decide +kernel
theorem dL_call_370 : decode cL_call 370 = .ok (.i2c, 1) := by decide +kernel
theorem dL_call_371 : decode cL_call 371 = .ok (.iload 4, 2) := by decide +kernel
theorem dL_call_373 : decode cL_call 373 = .ok (.i2c, 1) := by decide +kernel
theorem dL_call_374 : decode cL_call 374 = .ok (.iload 5, 2) := by decide +kernel
theorem dL_call_376 : decode cL_call 376 = .ok (.i2c, 1) := by decide +kernel
theorem dL_call_377 : decode cL_call 377 = .ok (.invokevirtual 73, 3) := by decide +kernel
theorem dL_call_380 : decode cL_call 380 = .ok (.i2l, 1) := by decide +kernel
theorem dL_call_381 : decode cL_call 381 = .ok (.lreturn, 1) := by decide +kernel
theorem dL_call_382 : decode cL_call 382 = .ok (.aload_n 0, 1) := by decide +kernel
theorem dL_call_383 : decode cL_call 383 = .ok (.iload_n 2, 1) := by decide +kernel
theorem dL_call_384 : decode cL_call 384 = .ok (.invokevirtual 77, 3) := by decide +kernel
theorem dL_call_387 : decode cL_call 387 = .ok (.i2l, 1) := by decide +kernel
theorem dL_call_388 : decode cL_call 388 = .ok (.lreturn, 1) := by decide +kernel
theorem dL_call_389 : decode cL_call 389 = .ok (.aload_n 0, 1) := by decide +kernel
theorem dL_call_390 : decode cL_call 390 = .ok (.iload_n 2, 1) := by decide +kernel
theorem dL_call_391 : decode cL_call 391 = .ok (.invokevirtual 80, 3) := by decide +kernel
theorem dL_call_394 : decode cL_call 394 = .ok (.i2l, 1) := by decide +kernel
theorem dL_call_395 : decode cL_call 395 = .ok (.lreturn, 1) := by decide +kernel
theorem dL_call_396 : decode cL_call 396 = .ok (.aload_n 0, 1) := by decide +kernel
theorem dL_call_397 : decode cL_call 397 = .ok (.iload_n 2, 1) := by decide +kernel
theorem dL_call_398 : decode cL_call 398 = .ok (.iload_n 3, 1) := by decide +kernel
theorem dL_call_399 : decode cL_call 399 = .ok (.invokevirtual 84, 3) := by decide +kernel
theorem dL_call_402 : decode cL_call 402 = .ok (.i2l, 1) := by decide +kernel
theorem dL_call_403 : decode cL_call 403 = .ok (.lreturn, 1) := by decide +kernel
theorem dL_call_404 : decode cL_call 404 = .ok (.aload_n 0, 1) := by decide +kernel
theorem dL_call_405 : decode cL_call 405 = .ok (.iload_n 2, 1) := by decide +kernel
theorem dL_call_406 : decode cL_call 406 = .ok (.iload_n 3, 1) := by decide +kernel
theorem dL_call_407 : decode cL_call 407 = .ok (.iload 4, 2) := by decide +kernel
theorem dL_call_409 : decode cL_call 409 = .ok (.invokevirtual 87, 3) := by decide +kernel
theorem dL_call_412 : decode cL_call 412 = .ok (.ifCond .eq 7, 3) := by decide +kernel
theorem dL_call_415 : decode cL_call 415 = .ok (.lconst 1, 1) := by decide +kernel
theorem dL_call_416 : decode cL_call 416 = .ok (.goto 4, 3) := by decide +kernel
theorem dL_call_419 : decode cL_call 419 = .ok (.lconst 0, 1) := by decide +kernel
theorem dL_call_420 : decode cL_call 420 = .ok (.lreturn, 1) := by decide +kernel
theorem dL_call_421 : decode cL_call 421 = .ok (.aload_n 0, 1) := by decide +kernel
theorem dL_call_422 : decode cL_call 422 = .ok (.iload_n 2, 1) := by decide +kernel
theorem dL_call_423 : decode cL_call 423 = .ok (.iload_n 3, 1) := by decide +kernel
theorem dL_call_424 : decode cL_call 424 = .ok (.invokevirtual 91, 3) := by decide +kernel
theorem dL_call_427 : decode cL_call 427 = .ok (.i2l, 1) := by decide +kernel
theorem dL_call_428 : decode cL_call 428 = .ok (.lreturn, 1) := by decide +kernel
theorem dL_call_429 : decode cL_call 429 = .ok (.aload_n 0, 1) := by decide +kernel
theorem dL_call_430 : decode cL_call 430 = .ok (.iload_n 2, 1) := by decide +kernel
theorem dL_call_431 : decode cL_call 431 = .ok (.iload_n 3, 1) := by decide +kernel
theorem dL_call_432 : decode cL_call 432 = .ok (.iload 4, 2) := by decide +kernel
theorem dL_call_434 : decode cL_call 434 = .ok (.iload 5, 2) := by decide +kernel
theorem dL_call_436 : decode cL_call 436 = .ok (.invokevirtual 94, 3) := by decide +kernel
theorem dL_call_439 : decode cL_call 439 = .ok (.i2l, 1) := by decide +kernel
theorem dL_call_440 : decode cL_call 440 = .ok (.lreturn, 1) := by decide +kernel
theorem dL_call_441 : decode cL_call 441 = .ok (.aload_n 0, 1) := by decide +kernel
theorem dL_call_442 : decode cL_call 442 = .ok (.iload_n 2, 1) := by decide +kernel
theorem dL_call_443 : decode cL_call 443 = .ok (.iload_n 3, 1) := by decide +kernel
theorem dL_call_444 : decode cL_call 444 = .ok (.iload 4, 2) := by decide +kernel
theorem dL_call_446 : decode cL_call 446 = .ok (.invokevirtual 98, 3) := by decide +kernel
theorem dL_call_449 : decode cL_call 449 = .ok (.i2l, 1) := by decide +kernel
theorem dL_call_450 : decode cL_call 450 = .ok (.lreturn, 1) := by decide +kernel
theorem dL_call_451 : decode cL_call 451 = .ok (.aload_n 0, 1) := by decide +kernel
theorem dL_call_452 : decode cL_call 452 = .ok (.iload_n 2, 1) := by decide +kernel
theorem dL_call_453 : decode cL_call 453 = .ok (.iload_n 3, 1) := by decide +kernel
theorem dL_call_454 : decode cL_call 454 = .ok (.iload 4, 2) := by decide +kernel
theorem dL_call_456 : decode cL_call 456 = .ok (.iload 5, 2) := by decide +kernel
theorem dL_call_458 : decode cL_call 458 = .ok (.invokevirtual 102, 3) := by decide +kernel
theorem dL_call_461 : decode cL_call 461 = .ok (.i2l, 1) := by decide +kernel
theorem dL_call_462 : decode cL_call 462 = .ok (.lreturn, 1) := by decide +kernel
theorem dL_call_463 : decode cL_call 463 = .ok (.aload_n 0, 1) := by decide +kernel
theorem dL_call_464 : decode cL_call 464 = .ok (.iload_n 2, 1) := by decide +kernel
theorem dL_call_465 : decode cL_call 465 = .ok (.iload_n 3, 1) := by decide +kernel
theorem dL_call_466 : decode cL_call 466 = .ok (.iload 4, 2) := by decide +kernel
theorem dL_call_468 : decode cL_call 468 = .ok (.iload 5, 2) := by decide +kernel
theorem dL_call_470 : decode cL_call 470 = .ok (.iload 6, 2) := by decide +kernel
theorem dL_call_472 : decode cL_call 472 = .ok (.invokevirtual 105, 3) := by decide +kernel
theorem dL_call_475 : decode cL_call 475 = .ok (.ifCond .eq 7, 3) := by decide +kernel
theorem dL_call_478 : decode cL_call 478 = .ok (.lconst 1, 1) := by decide +kernel
theorem dL_call_479 : decode cL_call 479 = .ok (.goto 4, 3) := by decide +kernel
theorem dL_call_482 : decode cL_call 482 = .ok (.lconst 0, 1) := by decide +kernel
theorem dL_call_483 : decode cL_call 483 = .ok (.lreturn, 1) := by decide +kernel
theorem dL_call_484 : decode cL_call 484 = .ok (.aload_n 0, 1) := by decide +kernel
theorem dL_call_485 : decode cL_call 485 = .ok (.iload_n 2, 1) := by decide +kernel
theorem dL_call_486 : decode cL_call 486 = .ok (.iload_n 3, 1) := by decide +kernel
theorem dL_call_487 : decode cL_call 487 = .ok (.invokevirtual 109, 3) := by decide +kernel
theorem dL_call_490 : decode cL_call 490 = .ok (.lreturn, 1) := by decide +kernel
theorem dL_call_491 : decode cL_call 491 = .ok (.aload_n 0, 1) := by decide +kernel
theorem dL_call_492 : decode cL_call 492 = .ok (.iload_n 2, 1) := by decide +kernel
theorem dL_call_493 : decode cL_call 493 = .ok (.iload_n 3, 1) := by decide +kernel
theorem dL_call_494 : decode cL_call 494 = .ok (.invokevirtual 112, 3) := by decide +kernel
theorem dL_call_497 : decode cL_call 497 = .ok (.lreturn, 1) := by decide +kernel
theorem dL_call_498 : decode cL_call 498 = .ok (.aload_n 0, 1) := by decide +kernel
theorem dL_call_499 : decode cL_call 499 = .ok (.iload_n 2, 1) := by decide +kernel
theorem dL_call_500 : decode cL_call 500 = .ok (.iload_n 3, 1) := by decide +kernel
theorem dL_call_501 : decode cL_call 501 = .ok (.invokevirtual 115, 3) := by decide +kernel
theorem dL_call_504 : decode cL_call 504 = .ok (.lreturn, 1) := by decide +kernel
theorem dL_call_505 : decode cL_call 505 = .ok (.aload_n 0, 1) := by decide +kernel
theorem dL_call_506 : decode cL_call 506 = .ok (.invokevirtual 118, 3) := by decide +kernel
theorem dL_call_509 : decode cL_call 509 = .ok (.i2l, 1) := by decide +kernel
theorem dL_call_510 : decode cL_call 510 = .ok (.lreturn, 1) := by decide +kernel
theorem dL_call_511 : decode cL_call 511 = .ok (.aload_n 0, 1) := by decide +kernel
theorem dL_call_512 : decode cL_call 512 = .ok (.invokevirtual 122, 3) := by decide +kernel
theorem dL_call_515 : decode cL_call 515 = .ok (.ifCond .eq 7, 3) := by decide +kernel
theorem dL_call_518 : decode cL_call 518 = .ok (.lconst 1, 1) := by decide +kernel
theorem dL_call_519 : decode cL_call 519 = .ok (.goto 4, 3) := by decide +kernel
theorem dL_call_522 : decode cL_call 522 = .ok (.lconst 0, 1) := by decide +kernel
theorem dL_call_523 : decode cL_call 523 = .ok (.lreturn, 1) := by decide +kernel
theorem dL_call_524 : decode cL_call 524 = .ok (.aload_n 0, 1) := by decide +kernel
theorem dL_call_525 : decode cL_call 525 = .ok (.iload_n 2, 1) := by decide +kernel
theorem dL_call_526 : decode cL_call 526 = .ok (.iload_n 3, 1) := by decide +kernel
theorem dL_call_527 : decode cL_call 527 = .ok (.invokevirtual 126, 3) := by decide +kernel
theorem dL_call_530 : decode cL_call 530 = .ok (.ifCond .eq 7, 3) := by decide +kernel
theorem dL_call_533 : decode cL_call 533 = .ok (.lconst 1, 1) := by decide +kernel
theorem dL_call_534 : decode cL_call 534 = .ok (.goto 4, 3) := by decide +kernel
theorem dL_call_537 : decode cL_call 537 = .ok (.lconst 0, 1) := by decide +kernel
theorem dL_call_538 : decode cL_call 538 = .ok (.lreturn, 1) := by decide +kernel
theorem dL_call_539 : decode cL_call 539 = .ok (.aload_n 0, 1) := by decide +kernel
theorem dL_call_540 : decode cL_call 540 = .ok (.iload_n 2, 1) := by decide +kernel
theorem dL_call_541 : decode cL_call 541 = .ok (.invokevirtual 129, 3) := by decide +kernel
theorem dL_call_544 : decode cL_call 544 = .ok (.ifCond .eq 7, 3) := by decide +kernel
theorem dL_call_547 : decode cL_call 547 = .ok (.lconst 1, 1) := by decide +kernel
theorem dL_call_548 : decode cL_call 548 = .ok (.goto 4, 3) := by decide +kernel
theorem dL_call_551 : decode cL_call 551 = .ok (.lconst 0, 1) := by decide +kernel
theorem dL_call_552 : decode cL_call 552 = .ok (.lreturn, 1) := by decide +kernel
theorem dL_call_553 : decode cL_call 553 = .ok (.aload_n 0, 1) := by decide +kernel
theorem dL_call_554 : decode cL_call 554 = .ok (.iload_n 2, 1) := by decide +kernel
theorem dL_call_555 : decode cL_call 555 = .ok (.invokevirtual 132, 3) := by decide +kernel
theorem dL_call_558 : decode cL_call 558 = .ok (.i2l, 1) := by decide +kernel
theorem dL_call_559 : decode cL_call 559 = .ok (.lreturn, 1) := by decide +kernel
theorem dL_call_560 : decode cL_call 560 = .ok (.aload_n 0, 1) := by decide +kernel
theorem dL_call_561 : decode cL_call 561 = .ok (.iload_n 2, 1) := by decide +kernel
theorem dL_call_562 : decode cL_call 562 = .ok (.iload_n 3, 1) := by decide +kernel
theorem dL_call_563 : decode cL_call 563 = .ok (.invokevirtual 135, 3) := by decide +kernel
theorem dL_call_566 : decode cL_call 566 = .ok (.ifCond .eq 7, 3) := by decide +kernel
theorem dL_call_569 : decode cL_call 569 = .ok (.lconst 1, 1) := by decide +kernel
theorem dL_call_570 : decode cL_call 570 = .ok (.goto 4, 3) := by decide +kernel
theorem dL_call_573 : decode cL_call 573 = .ok (.lconst 0, 1) := by decide +kernel
theorem dL_call_574 : decode cL_call 574 = .ok (.lreturn, 1) := by decide +kernel
theorem dL_call_575 : decode cL_call 575 = .ok (.aload_n 0, 1) := by decide +kernel
theorem dL_call_576 : decode cL_call 576 = .ok (.iload_n 2, 1) := by decide +kernel
theorem dL_call_577 : decode cL_call 577 = .ok (.iload_n 3, 1) := by decide +kernel
theorem dL_call_578 : decode cL_call 578 = .ok (.iload 4, 2) := by decide +kernel
theorem dL_call_580 : decode cL_call 580 = .ok (.invokevirtual 138, 3) := by decide +kernel
theorem dL_call_583 : decode cL_call 583 = .ok (.i2l, 1) := by decide +kernel
theorem dL_call_584 : decode cL_call 584 = .ok (.lreturn, 1) := by decide +kernel
theorem dL_call_585 : decode cL_call 585 = .ok (.aload_n 0, 1) := by decide +kernel
theorem dL_call_586 : decode cL_call 586 = .ok (.iload_n 2, 1) := by decide +kernel
theorem dL_call_587 : decode cL_call 587 = .ok (.i2c, 1) := by decide +kernel
theorem dL_call_588 : decode cL_call 588 = .ok (.invokevirtual 141, 3) := by decide +kernel
theorem dL_call_591 : decode cL_call 591 = .ok (.i2l, 1) := by decide +kernel
theorem dL_call_592 : decode cL_call 592 = .ok (.lreturn, 1) := by decide +kernel
theorem dL_call_593 : decode cL_call 593 = .ok (.aload_n 0, 1) := by decide +kernel
theorem dL_call_594 : decode cL_call 594 = .ok (.iload_n 2, 1) := by decide +kernel
theorem dL_call_595 : decode cL_call 595 = .ok (.invokevirtual 144, 3) := by decide +kernel
theorem dL_call_598 : decode cL_call 598 = .ok (.i2l, 1) := by decide +kernel
theorem dL_call_599 : decode cL_call 599 = .ok (.lreturn, 1) := by decide +kernel
theorem dL_call_600 : decode cL_call 600 = .ok (.astore 7, 2) := by decide +kernel
theorem dL_call_602 : decode cL_call 602 = .ok (.ldc2_w 149, 3) := by decide +kernel
theorem dL_call_605 : decode cL_call 605 = .ok (.lreturn, 1) := by decide +kernel
theorem dL_call_606 : decode cL_call 606 = .ok (.astore 7, 2) := by decide +kernel
theorem dL_call_608 : decode cL_call 608 = .ok (.ldc2_w 153, 3) := by decide +kernel
theorem dL_call_611 : decode cL_call 611 = .ok (.lreturn, 1) := by decide +kernel
theorem dL_call_612 : decode cL_call 612 = .ok (.astore 7, 2) := by decide +kernel
theorem dL_call_614 : decode cL_call 614 = .ok (.ldc2_w 157, 3) := by decide +kernel
theorem dL_call_617 : decode cL_call 617 = .ok (.lreturn, 1) := by decide +kernel
theorem dL_call_618 : decode cL_call 618 = .ok (.astore 7, 2) := by decide +kernel
theorem dL_call_620 : decode cL_call 620 = .ok (.ldc2_w 161, 3) := by decide +kernel
theorem dL_call_623 : decode cL_call 623 = .ok (.lreturn, 1) := by decide +kernel
theorem dL_call_624 : decode cL_call 624 = .ok (.astore 7, 2) := by decide +kernel
theorem dL_call_626 : decode cL_call 626 = .ok (.ldc2_w 165, 3) := by decide +kernel
theorem dL_call_629 : decode cL_call 629 = .ok (.lreturn, 1) := by decide +kernel
theorem dL_call_630 : decode cL_call 630 = .ok (.astore 7, 2) := by decide +kernel
theorem dL_call_632 : decode cL_call 632 = .ok (.ldc2_w 169, 3) := by decide +kernel
theorem dL_call_635 : decode cL_call 635 = .ok (.lreturn, 1) := by decide +kernel
theorem dL_call__0 : decode cL_call_ 0 = .ok (.aload_n 0, 1) := by decide +kernel
theorem dL_call__1 : decode cL_call_ 1 = .ok (.iload_n 1, 1) := by decide +kernel
theorem dL_call__2 : decode cL_call_ 2 = .ok (.iload_n 2, 1) := by decide +kernel
theorem dL_call__3 : decode cL_call_ 3 = .ok (.iload_n 3, 1) := by decide +kernel
theorem dL_call__4 : decode cL_call_ 4 = .ok (.iload 4, 2) := by decide +kernel
theorem dL_call__6 : decode cL_call_ 6 = .ok (.iconst 0, 1) := by decide +kernel
theorem dL_call__7 : decode cL_call_ 7 = .ok (.iconst 0, 1) := by decide +kernel
theorem dL_call__8 : decode cL_call_ 8 = .ok (.invokestatic 171, 3) := by decide +kernel
theorem dL_call__11 : decode cL_call_ 11 = .ok (.lreturn, 1) := by decide +kernel
theorem dL_cell_0 : decode cL_cell 0 = .ok (.iload_n 1, 1) := by decide +kernel
theorem dL_cell_1 : decode cL_cell 1 = .ok (.aload_n 0, 1) := by decide +kernel
theorem dL_cell_2 : decode cL_cell 2 = .ok (.arraylength, 1) := by decide +kernel
theorem dL_cell_3 : decode cL_cell 3 = .ok (.if_icmp .ge 9, 3) := by decide +kernel
theorem dL_cell_6 : decode cL_cell 6 = .ok (.aload_n 0, 1) := by decide +kernel
theorem dL_cell_7 : decode cL_cell 7 = .ok (.iload_n 1, 1) := by decide +kernel
theorem dL_cell_8 : decode cL_cell 8 = .ok (.iaload, 1) := by decide +kernel
theorem dL_cell_9 : decode cL_cell 9 = .ok (.goto 10, 3) := by decide +kernel
theorem dL_cell_12 : decode cL_cell 12 = .ok (.ldc 7, 2) := by decide +kernel
theorem dL_cell_14 : decode cL_cell 14 = .ok (.iload_n 1, 1) := by decide +kernel
theorem dL_cell_15 : decode cL_cell 15 = .ok (.imul, 1) := by decide +kernel
theorem dL_cell_16 : decode cL_cell 16 = .ok (.bipush 97, 2) := by decide +kernel
theorem dL_cell_18 : decode cL_cell 18 = .ok (.iadd, 1) := by decide +kernel
theorem dL_cell_19 : decode cL_cell 19 = .ok (.ireturn, 1) := by decide +kernel
theorem dL_law_0 : decode cL_law 0 = .ok (.new 10, 3) := by decide +kernel
theorem dL_law_3 : decode cL_law 3 = .ok (.dup, 1) := by decide +kernel
theorem dL_law_4 : decode cL_law 4 = .ok (.invokespecial 199, 3) := by decide +kernel
theorem dL_law_7 : decode cL_law 7 = .ok (.astore_n 1, 1) := by decide +kernel
theorem dL_law_8 : decode cL_law 8 = .ok (.iconst 0, 1) := by decide +kernel
theorem dL_law_9 : decode cL_law 9 = .ok (.istore_n 2, 1) := by decide +kernel
theorem dL_law_10 : decode cL_law 10 = .ok (.iconst 0, 1) := by decide +kernel
theorem dL_law_11 : decode cL_law 11 = .ok (.istore_n 3, 1) := by decide +kernel
theorem dL_law_12 : decode cL_law 12 = .ok (.iconst 0, 1) := by decide +kernel
theorem dL_law_13 : decode cL_law 13 = .ok (.istore 4, 2) := by decide +kernel
theorem dL_law_15 : decode cL_law 15 = .ok (.iconst 0, 1) := by decide +kernel
theorem dL_law_16 : decode cL_law 16 = .ok (.istore 5, 2) := by decide +kernel
theorem dL_law_18 : decode cL_law 18 = .ok (.iload 5, 2) := by decide +kernel
theorem dL_law_20 : decode cL_law 20 = .ok (.bipush 30, 2) := by decide +kernel
theorem dL_law_22 : decode cL_law 22 = .ok (.if_icmp .ge 1408, 3) := by decide +kernel
theorem dL_law_25 : decode cL_law 25 = .ok (.aload_n 0, 1) := by decide +kernel
theorem dL_law_26 : decode cL_law 26 = .ok (.iconst 2, 1) := by decide +kernel
theorem dL_law_27 : decode cL_law 27 = .ok (.iload 5, 2) := by decide +kernel
theorem dL_law_29 : decode cL_law 29 = .ok (.imul, 1) := by decide +kernel
theorem dL_law_30 : decode cL_law 30 = .ok (.invokestatic 200, 3) := by decide +kernel
theorem dL_law_33 : decode cL_law 33 = .ok (.istore 6, 2) := by decide +kernel
theorem dL_law_35 : decode cL_law 35 = .ok (.aload_n 0, 1) := by decide +kernel
theorem dL_law_36 : decode cL_law 36 = .ok (.iconst 2, 1) := by decide +kernel
theorem dL_law_37 : decode cL_law 37 = .ok (.iload 5, 2) := by decide +kernel
theorem dL_law_39 : decode cL_law 39 = .ok (.imul, 1) := by decide +kernel
theorem dL_law_40 : decode cL_law 40 = .ok (.iconst 1, 1) := by decide +kernel
theorem dL_law_41 : decode cL_law 41 = .ok (.iadd, 1) := by decide +kernel
theorem dL_law_42 : decode cL_law 42 = .ok (.invokestatic 200, 3) := by decide +kernel
theorem dL_law_45 : decode cL_law 45 = .ok (.istore 7, 2) := by decide +kernel
theorem dL_law_47 : decode cL_law 47 = .ok (.iload 6, 2) := by decide +kernel
theorem dL_law_49 : decode cL_law 49 = .ok (.bipush 6, 2) := by decide +kernel
theorem dL_law_51 : decode cL_law 51 = .ok (.ishr, 1) := by decide +kernel
theorem dL_law_52 : decode cL_law 52 = .ok (.iload_n 2, 1) := by decide +kernel
theorem dL_law_53 : decode cL_law 53 = .ok (.iconst 1, 1) := by decide +kernel
theorem dL_law_54 : decode cL_law 54 = .ok (.iadd, 1) := by decide +kernel
theorem dL_law_55 : decode cL_law 55 = .ok (.invokestatic 204, 3) := by decide +kernel
theorem dL_law_58 : decode cL_law 58 = .ok (.istore 8, 2) := by decide +kernel
theorem dL_law_60 : decode cL_law 60 = .ok (.iload 5, 2) := by decide +kernel
theorem dL_law_62 : decode cL_law 62 = .ok (.ifCond .ne 7, 3) := by decide +kernel
theorem dL_law_65 : decode cL_law 65 = .ok (.iconst 0, 1) := by decide +kernel
theorem dL_law_66 : decode cL_law 66 = .ok (.goto 21, 3) := by decide +kernel
theorem dL_law_69 : decode cL_law 69 = .ok (.iload 5, 2) := by decide +kernel
theorem dL_law_71 : decode cL_law 71 = .ok (.bipush 6, 2) := by decide +kernel
theorem dL_law_73 : decode cL_law 73 = .ok (.if_icmp .ge 7, 3) := by decide +kernel
theorem dL_law_76 : decode cL_law 76 = .ok (.iconst 1, 1) := by decide +kernel
theorem dL_law_77 : decode cL_law 77 = .ok (.goto 10, 3) := by decide +kernel
theorem dL_law_80 : decode cL_law 80 = .ok (.iload 6, 2) := by decide +kernel
theorem dL_law_82 : decode cL_law 82 = .ok (.bipush 20, 2) := by decide +kernel
theorem dL_law_84 : decode cL_law 84 = .ok (.invokestatic 204, 3) := by decide +kernel
theorem dL_law_87 : decode cL_law 87 = .ok (.istore 9, 2) := by decide +kernel
theorem dL_law_89 : decode cL_law 89 = .ok (.iload 9, 2) := by decide +kernel
theorem dL_law_91 : decode cL_law 91 = .ok (.bipush 8, 2) := by decide +kernel
theorem dL_law_93 : decode cL_law 93 = .ok (.if_icmp .eq 17, 3) := by decide +kernel
theorem dL_law_96 : decode cL_law 96 = .ok (.iload 9, 2) := by decide +kernel
theorem dL_law_98 : decode cL_law 98 = .ok (.bipush 9, 2) := by decide +kernel
theorem dL_law_100 : decode cL_law 100 = .ok (.if_icmp .eq 10, 3) := by decide +kernel
theorem dL_law_103 : decode cL_law 103 = .ok (.iload 9, 2) := by decide +kernel
theorem dL_law_105 : decode cL_law 105 = .ok (.bipush 12, 2) := by decide +kernel
theorem dL_law_107 : decode cL_law 107 = .ok (.if_icmp .ne 132, 3) := by decide +kernel
theorem dL_law_110 : decode cL_law 110 = .ok (.ldc 207, 2) := by decide +kernel
theorem dL_law_112 : decode cL_law 112 = .ok (.astore 10, 2) := by decide +kernel
theorem dL_law_114 : decode cL_law 114 = .ok (.iload 7, 2) := by decide +kernel
theorem dL_law_116 : decode cL_law 116 = .ok (.iconst 5, 1) := by decide +kernel
theorem dL_law_117 : decode cL_law 117 = .ok (.invokestatic 204, 3) := by decide +kernel
theorem dL_law_120 : decode cL_law 120 = .ok (.istore 11, 2) := by decide +kernel
theorem dL_law_122 : decode cL_law 122 = .ok (.iload 11, 2) := by decide +kernel
theorem dL_law_124 : decode cL_law 124 = .ok (.ifCond .lt 104, 3) := by decide +kernel
theorem dL_law_127 : decode cL_law 127 = .ok (.new 209, 3) := by decide +kernel
theorem dL_law_130 : decode cL_law 130 = .ok (.dup, 1) := by decide +kernel
theorem dL_law_131 : decode cL_law 131 = .ok (.invokespecial 211, 3) := by decide +kernel
theorem dL_law_134 : decode cL_law 134 = .ok (.aload 10, 2) := by decide +kernel
theorem dL_law_136 : decode cL_law 136 = .ok (.invokevirtual 212, 3) := by decide +kernel
theorem dL_law_139 : decode cL_law 139 = .ok (.iload 9, 2) := by decide +kernel
theorem dL_law_141 : decode cL_law 141 = .ok (.bipush 8, 2) := by decide +kernel
theorem dL_law_143 : decode cL_law 143 = .ok (.if_icmp .ne 25, 3) := by decide +kernel
theorem dL_law_146 : decode cL_law 146 = .ok (.ldc 216, 2) := by decide +kernel
theorem dL_law_148 : decode cL_law 148 = .ok (.iload 7, 2) := by decide +kernel
theorem dL_law_150 : decode cL_law 150 = .ok (.iconst 3, 1) := by decide +kernel
theorem dL_law_151 : decode cL_law 151 = .ok (.iconst 3, 1) := by decide +kernel
theorem dL_law_152 : decode cL_law 152 = .ok (.iload 11, 2) := by decide +kernel
theorem dL_law_154 : decode cL_law 154 = .ok (.imul, 1) := by decide +kernel
theorem dL_law_155 : decode cL_law 155 = .ok (.iadd, 1) := by decide +kernel
theorem dL_law_156 : decode cL_law 156 = .ok (.ishr, 1) := by decide +kernel
theorem dL_law_157 : decode cL_law 157 = .ok (.bipush 9, 2) := by decide +kernel
theorem dL_law_159 : decode cL_law 159 = .ok (.invokestatic 204, 3) := by decide +kernel
theorem dL_law_162 : decode cL_law 162 = .ok (.invokevirtual 185, 3) := by decide +kernel
theorem dL_law_165 : decode cL_law 165 = .ok (.goto 49, 3) := by decide +kernel
theorem dL_law_168 : decode cL_law 168 = .ok (.iload 9, 2) := by decide +kernel
theorem dL_law_170 : decode cL_law 170 = .ok (.bipush 9, 2) := by decide +kernel
theorem dL_law_172 : decode cL_law 172 = .ok (.if_icmp .ne 24, 3) := by decide +kernel
theorem dL_law_175 : decode cL_law 175 = .ok (.ldc 218, 2) := by decide +kernel
theorem dL_law_177 : decode cL_law 177 = .ok (.iload 7, 2) := by decide +kernel
theorem dL_law_179 : decode cL_law 179 = .ok (.iconst 3, 1) := by decide +kernel
theorem dL_law_180 : decode cL_law 180 = .ok (.iconst 3, 1) := by decide +kernel
theorem dL_law_181 : decode cL_law 181 = .ok (.iload 11, 2) := by decide +kernel
theorem dL_law_183 : decode cL_law 183 = .ok (.imul, 1) := by decide +kernel
theorem dL_law_184 : decode cL_law 184 = .ok (.iadd, 1) := by decide +kernel
theorem dL_law_185 : decode cL_law 185 = .ok (.ishr, 1) := by decide +kernel
theorem dL_law_186 : decode cL_law 186 = .ok (.iconst 2, 1) := by decide +kernel
theorem dL_law_187 : decode cL_law 187 = .ok (.invokestatic 204, 3) := by decide +kernel
theorem dL_law_190 : decode cL_law 190 = .ok (.invokevirtual 185, 3) := by decide +kernel
theorem dL_law_193 : decode cL_law 193 = .ok (.goto 21, 3) := by decide +kernel
theorem dL_law_196 : decode cL_law 196 = .ok (.ldc 220, 2) := by decide +kernel
theorem dL_law_198 : decode cL_law 198 = .ok (.iload 7, 2) := by decide +kernel
theorem dL_law_200 : decode cL_law 200 = .ok (.iconst 3, 1) := by decide +kernel
theorem dL_law_201 : decode cL_law 201 = .ok (.iconst 3, 1) := by decide +kernel
theorem dL_law_202 : decode cL_law 202 = .ok (.iload 11, 2) := by decide +kernel
theorem dL_law_204 : decode cL_law 204 = .ok (.imul, 1) := by decide +kernel
theorem dL_law_205 : decode cL_law 205 = .ok (.iadd, 1) := by decide +kernel
theorem dL_law_206 : decode cL_law 206 = .ok (.ishr, 1) := by decide +kernel
theorem dL_law_207 : decode cL_law 207 = .ok (.iconst 3, 1) := by decide +kernel
theorem dL_law_208 : decode cL_law 208 = .ok (.invokestatic 204, 3) := by decide +kernel
theorem dL_law_211 : decode cL_law 211 = .ok (.invokevirtual 185, 3) := by decide +kernel
theorem dL_law_214 : decode cL_law 214 = .ok (.invokevirtual 222, 3) := by decide +kernel
theorem dL_law_217 : decode cL_law 217 = .ok (.invokevirtual 225, 3) := by decide +kernel
theorem dL_law_220 : decode cL_law 220 = .ok (.astore 10, 2) := by decide +kernel
theorem dL_law_222 : decode cL_law 222 = .ok (.iinc 11 (-1), 3) := by decide +kernel
theorem dL_law_225 : decode cL_law 225 = .ok (.goto (-103), 3) := by decide +kernel
theorem dL_law_228 : decode cL_law 228 = .ok (.aload_n 1, 1) := by decide +kernel
theorem dL_law_229 : decode cL_law 229 = .ok (.aload 10, 2) := by decide +kernel
theorem dL_law_231 : decode cL_law 231 = .ok (.invokestatic 229, 3) := by decide +kernel
theorem dL_law_234 : decode cL_law 234 = .ok (.ifCond .ne 5, 3) := by decide +kernel
theorem dL_law_237 : decode cL_law 237 = .ok (.iconst 0, 1) := by decide +kernel
theorem dL_law_238 : decode cL_law 238 = .ok (.ireturn, 1) := by decide +kernel
theorem dL_law_239 : decode cL_law 239 = .ok (.aload_n 1, 1) := by decide +kernel
theorem dL_law_240 : decode cL_law 240 = .ok (.iload_n 2, 1) := by decide +kernel
theorem dL_law_241 : decode cL_law 241 = .ok (.iload 4, 2) := by decide +kernel
theorem dL_law_243 : decode cL_law 243 = .ok (.invokestatic 233, 3) := by decide +kernel
theorem dL_law_246 : decode cL_law 246 = .ok (.lstore 10, 2) := by decide +kernel
theorem dL_law_248 : decode cL_law 248 = .ok (.lconst 0, 1) := by decide +kernel
theorem dL_law_249 : decode cL_law 249 = .ok (.lstore 12, 2) := by decide +kernel
theorem dL_law_251 : decode cL_law 251 = .ok (.iconst 0, 1) := by decide +kernel
theorem dL_law_252 : decode cL_law 252 = .ok (.istore 14, 2) := by decide +kernel
theorem dL_law_254 : decode cL_law 254 = .ok (.iload 9, 2) := by decide +kernel
theorem dL_law_256 : decode cL_law 256 = .ok (.ifCond .ne 47, 3) := by decide +kernel
theorem dL_law_259 : decode cL_law 259 = .ok (.aload_n 1, 1) := by decide +kernel
theorem dL_law_260 : decode cL_law 260 = .ok (.iconst 1, 1) := by decide +kernel
theorem dL_law_261 : decode cL_law 261 = .ok (.iconst 1, 1) := by decide +kernel
theorem dL_law_262 : decode cL_law 262 = .ok (.iload 7, 2) := by decide +kernel
theorem dL_law_264 : decode cL_law 264 = .ok (.bipush 6, 2) := by decide +kernel
theorem dL_law_266 : decode cL_law 266 = .ok (.invokestatic 204, 3) := by decide +kernel
theorem dL_law_269 : decode cL_law 269 = .ok (.iadd, 1) := by decide +kernel
theorem dL_law_270 : decode cL_law 270 = .ok (.iconst 2, 1) := by decide +kernel
theorem dL_law_271 : decode cL_law 271 = .ok (.iload 7, 2) := by decide +kernel
theorem dL_law_273 : decode cL_law 273 = .ok (.iconst 4, 1) := by decide +kernel
theorem dL_law_274 : decode cL_law 274 = .ok (.ishr, 1) := by decide +kernel
theorem dL_law_275 : decode cL_law 275 = .ok (.iconst 2, 1) := by decide +kernel
theorem dL_law_276 : decode cL_law 276 = .ok (.invokestatic 204, 3) := by decide +kernel
theorem dL_law_279 : decode cL_law 279 = .ok (.iadd, 1) := by decide +kernel
theorem dL_law_280 : decode cL_law 280 = .ok (.iconst 0, 1) := by decide +kernel
theorem dL_law_281 : decode cL_law 281 = .ok (.invokestatic 188, 3) := by decide +kernel
theorem dL_law_284 : decode cL_law 284 = .ok (.lstore 12, 2) := by decide +kernel
theorem dL_law_286 : decode cL_law 286 = .ok (.lload 12, 2) := by decide +kernel
theorem dL_law_288 : decode cL_law 288 = .ok (.lconst 0, 1) := by decide +kernel
theorem dL_law_289 : decode cL_law 289 = .ok (.lcmp, 1) := by decide +kernel
theorem dL_law_290 : decode cL_law 290 = .ok (.ifCond .lt 7, 3) := by decide +kernel
theorem dL_law_293 : decode cL_law 293 = .ok (.iconst 1, 1) := by decide +kernel
theorem dL_law_294 : decode cL_law 294 = .ok (.goto 4, 3) := by decide +kernel
theorem dL_law_297 : decode cL_law 297 = .ok (.iconst 0, 1) := by decide +kernel
theorem dL_law_298 : decode cL_law 298 = .ok (.istore 14, 2) := by decide +kernel
theorem dL_law_300 : decode cL_law 300 = .ok (.goto 747, 3) := by decide +kernel
theorem dL_law_303 : decode cL_law 303 = .ok (.iload 9, 2) := by decide +kernel
theorem dL_law_305 : decode cL_law 305 = .ok (.bipush 8, 2) := by decide +kernel
theorem dL_law_307 : decode cL_law 307 = .ok (.if_icmp .ge 61, 3) := by decide +kernel
theorem dL_law_310 : decode cL_law 310 = .ok (.aload_n 1, 1) := by decide +kernel
theorem dL_law_311 : decode cL_law 311 = .ok (.iconst 2, 1) := by decide +kernel
theorem dL_law_312 : decode cL_law 312 = .ok (.iload 8, 2) := by decide +kernel
theorem dL_law_314 : decode cL_law 314 = .ok (.iload 7, 2) := by decide +kernel
theorem dL_law_316 : decode cL_law 316 = .ok (.bipush 6, 2) := by decide +kernel
theorem dL_law_318 : decode cL_law 318 = .ok (.invokestatic 204, 3) := by decide +kernel
theorem dL_law_321 : decode cL_law 321 = .ok (.bipush 97, 2) := by decide +kernel
theorem dL_law_323 : decode cL_law 323 = .ok (.iload 7, 2) := by decide +kernel
theorem dL_law_325 : decode cL_law 325 = .ok (.iconst 4, 1) := by decide +kernel
theorem dL_law_326 : decode cL_law 326 = .ok (.ishr, 1) := by decide +kernel
theorem dL_law_327 : decode cL_law 327 = .ok (.iconst 3, 1) := by decide +kernel
theorem dL_law_328 : decode cL_law 328 = .ok (.invokestatic 204, 3) := by decide +kernel
theorem dL_law_331 : decode cL_law 331 = .ok (.iadd, 1) := by decide +kernel
theorem dL_law_332 : decode cL_law 332 = .ok (.iload 7, 2) := by decide +kernel
theorem dL_law_334 : decode cL_law 334 = .ok (.bipush 7, 2) := by decide +kernel
theorem dL_law_336 : decode cL_law 336 = .ok (.ishr, 1) := by decide +kernel
theorem dL_law_337 : decode cL_law 337 = .ok (.bipush 6, 2) := by decide +kernel
theorem dL_law_339 : decode cL_law 339 = .ok (.invokestatic 204, 3) := by decide +kernel
theorem dL_law_342 : decode cL_law 342 = .ok (.iload 7, 2) := by decide +kernel
theorem dL_law_344 : decode cL_law 344 = .ok (.bipush 10, 2) := by decide +kernel
theorem dL_law_346 : decode cL_law 346 = .ok (.ishr, 1) := by decide +kernel
theorem dL_law_347 : decode cL_law 347 = .ok (.bipush 6, 2) := by decide +kernel
theorem dL_law_349 : decode cL_law 349 = .ok (.invokestatic 204, 3) := by decide +kernel
theorem dL_law_352 : decode cL_law 352 = .ok (.ifCond .le 7, 3) := by decide +kernel
theorem dL_law_355 : decode cL_law 355 = .ok (.iconst 1, 1) := by decide +kernel
theorem dL_law_356 : decode cL_law 356 = .ok (.goto 4, 3) := by decide +kernel
theorem dL_law_359 : decode cL_law 359 = .ok (.iconst 0, 1) := by decide +kernel
theorem dL_law_360 : decode cL_law 360 = .ok (.invokestatic 171, 3) := by decide +kernel
theorem dL_law_363 : decode cL_law 363 = .ok (.lstore 12, 2) := by decide +kernel
theorem dL_law_365 : decode cL_law 365 = .ok (.goto 682, 3) := by decide +kernel
theorem dL_law_368 : decode cL_law 368 = .ok (.iload 9, 2) := by decide +kernel
theorem dL_law_370 : decode cL_law 370 = .ok (.bipush 8, 2) := by decide +kernel
theorem dL_law_372 : decode cL_law 372 = .ok (.if_icmp .ne 40, 3) := by decide +kernel
theorem dL_law_375 : decode cL_law 375 = .ok (.aload_n 1, 1) := by decide +kernel
theorem dL_law_376 : decode cL_law 376 = .ok (.iconst 3, 1) := by decide +kernel
theorem dL_law_377 : decode cL_law 377 = .ok (.iconst 2, 1) := by decide +kernel
theorem dL_law_378 : decode cL_law 378 = .ok (.iload 7, 2) := by decide +kernel
theorem dL_law_380 : decode cL_law 380 = .ok (.bipush 20, 2) := by decide +kernel
theorem dL_law_382 : decode cL_law 382 = .ok (.ishr, 1) := by decide +kernel
theorem dL_law_383 : decode cL_law 383 = .ok (.iconst 2, 1) := by decide +kernel
theorem dL_law_384 : decode cL_law 384 = .ok (.invokestatic 204, 3) := by decide +kernel
theorem dL_law_387 : decode cL_law 387 = .ok (.iadd, 1) := by decide +kernel
theorem dL_law_388 : decode cL_law 388 = .ok (.iconst 0, 1) := by decide +kernel
theorem dL_law_389 : decode cL_law 389 = .ok (.iconst 0, 1) := by decide +kernel
theorem dL_law_390 : decode cL_law 390 = .ok (.invokestatic 188, 3) := by decide +kernel
theorem dL_law_393 : decode cL_law 393 = .ok (.lstore 12, 2) := by decide +kernel
theorem dL_law_395 : decode cL_law 395 = .ok (.lload 12, 2) := by decide +kernel
theorem dL_law_397 : decode cL_law 397 = .ok (.lconst 0, 1) := by decide +kernel
theorem dL_law_398 : decode cL_law 398 = .ok (.lcmp, 1) := by decide +kernel
theorem dL_law_399 : decode cL_law 399 = .ok (.ifCond .lt 7, 3) := by decide +kernel
theorem dL_law_402 : decode cL_law 402 = .ok (.iconst 1, 1) := by decide +kernel
theorem dL_law_403 : decode cL_law 403 = .ok (.goto 4, 3) := by decide +kernel
theorem dL_law_406 : decode cL_law 406 = .ok (.iconst 0, 1) := by decide +kernel
theorem dL_law_407 : decode cL_law 407 = .ok (.istore 14, 2) := by decide +kernel
theorem dL_law_409 : decode cL_law 409 = .ok (.goto 638, 3) := by decide +kernel
theorem dL_law_412 : decode cL_law 412 = .ok (.iload 9, 2) := by decide +kernel
theorem dL_law_414 : decode cL_law 414 = .ok (.bipush 9, 2) := by decide +kernel
theorem dL_law_416 : decode cL_law 416 = .ok (.if_icmp .ne 27, 3) := by decide +kernel
theorem dL_law_419 : decode cL_law 419 = .ok (.aload_n 1, 1) := by decide +kernel
theorem dL_law_420 : decode cL_law 420 = .ok (.bipush 19, 2) := by decide +kernel
theorem dL_law_422 : decode cL_law 422 = .ok (.iload 7, 2) := by decide +kernel
theorem dL_law_424 : decode cL_law 424 = .ok (.bipush 20, 2) := by decide +kernel
theorem dL_law_426 : decode cL_law 426 = .ok (.ishr, 1) := by decide +kernel
theorem dL_law_427 : decode cL_law 427 = .ok (.iload_n 3, 1) := by decide +kernel
theorem dL_law_428 : decode cL_law 428 = .ok (.iconst 1, 1) := by decide +kernel
theorem dL_law_429 : decode cL_law 429 = .ok (.iadd, 1) := by decide +kernel
theorem dL_law_430 : decode cL_law 430 = .ok (.invokestatic 204, 3) := by decide +kernel
theorem dL_law_433 : decode cL_law 433 = .ok (.iconst 0, 1) := by decide +kernel
theorem dL_law_434 : decode cL_law 434 = .ok (.iconst 0, 1) := by decide +kernel
theorem dL_law_435 : decode cL_law 435 = .ok (.invokestatic 188, 3) := by decide +kernel
theorem dL_law_438 : decode cL_law 438 = .ok (.lstore 12, 2) := by decide +kernel
theorem dL_law_440 : decode cL_law 440 = .ok (.goto 607, 3) := by decide +kernel
theorem dL_law_443 : decode cL_law 443 = .ok (.iload 9, 2) := by decide +kernel
theorem dL_law_445 : decode cL_law 445 = .ok (.bipush 10, 2) := by decide +kernel
theorem dL_law_447 : decode cL_law 447 = .ok (.if_icmp .ne 37, 3) := by decide +kernel
theorem dL_law_450 : decode cL_law 450 = .ok (.aload_n 1, 1) := by decide +kernel
theorem dL_law_451 : decode cL_law 451 = .ok (.iconst 4, 1) := by decide +kernel
theorem dL_law_452 : decode cL_law 452 = .ok (.iload 7, 2) := by decide +kernel
theorem dL_law_454 : decode cL_law 454 = .ok (.sipush 257, 3) := by decide +kernel
theorem dL_law_457 : decode cL_law 457 = .ok (.invokestatic 204, 3) := by decide +kernel
theorem dL_law_460 : decode cL_law 460 = .ok (.iconst 0, 1) := by decide +kernel
theorem dL_law_461 : decode cL_law 461 = .ok (.iconst 0, 1) := by decide +kernel
theorem dL_law_462 : decode cL_law 462 = .ok (.invokestatic 188, 3) := by decide +kernel
theorem dL_law_465 : decode cL_law 465 = .ok (.lstore 12, 2) := by decide +kernel
theorem dL_law_467 : decode cL_law 467 = .ok (.lload 12, 2) := by decide +kernel
theorem dL_law_469 : decode cL_law 469 = .ok (.lconst 0, 1) := by decide +kernel
theorem dL_law_470 : decode cL_law 470 = .ok (.lcmp, 1) := by decide +kernel
theorem dL_law_471 : decode cL_law 471 = .ok (.ifCond .lt 7, 3) := by decide +kernel
theorem dL_law_474 : decode cL_law 474 = .ok (.iconst 1, 1) := by decide +kernel
theorem dL_law_475 : decode cL_law 475 = .ok (.goto 4, 3) := by decide +kernel
theorem dL_law_478 : decode cL_law 478 = .ok (.iconst 0, 1) := by decide +kernel
theorem dL_law_479 : decode cL_law 479 = .ok (.istore 14, 2) := by decide +kernel
theorem dL_law_481 : decode cL_law 481 = .ok (.goto 566, 3) := by decide +kernel
theorem dL_law_484 : decode cL_law 484 = .ok (.iload 9, 2) := by decide +kernel
theorem dL_law_486 : decode cL_law 486 = .ok (.bipush 11, 2) := by decide +kernel
theorem dL_law_488 : decode cL_law 488 = .ok (.if_icmp .ne 39, 3) := by decide +kernel
theorem dL_law_491 : decode cL_law 491 = .ok (.aload_n 1, 1) := by decide +kernel
theorem dL_law_492 : decode cL_law 492 = .ok (.bipush 17, 2) := by decide +kernel
theorem dL_law_494 : decode cL_law 494 = .ok (.iconst 2, 1) := by decide +kernel
theorem dL_law_495 : decode cL_law 495 = .ok (.iload 7, 2) := by decide +kernel
theorem dL_law_497 : decode cL_law 497 = .ok (.iconst 2, 1) := by decide +kernel
theorem dL_law_498 : decode cL_law 498 = .ok (.invokestatic 204, 3) := by decide +kernel
theorem dL_law_501 : decode cL_law 501 = .ok (.iadd, 1) := by decide +kernel
theorem dL_law_502 : decode cL_law 502 = .ok (.iconst 0, 1) := by decide +kernel
theorem dL_law_503 : decode cL_law 503 = .ok (.iconst 0, 1) := by decide +kernel
theorem dL_law_504 : decode cL_law 504 = .ok (.invokestatic 188, 3) := by decide +kernel
theorem dL_law_507 : decode cL_law 507 = .ok (.lstore 12, 2) := by decide +kernel
theorem dL_law_509 : decode cL_law 509 = .ok (.iload_n 3, 1) := by decide +kernel
theorem dL_law_510 : decode cL_law 510 = .ok (.lload 12, 2) := by decide +kernel
theorem dL_law_512 : decode cL_law 512 = .ok (.lconst 0, 1) := by decide +kernel
theorem dL_law_513 : decode cL_law 513 = .ok (.lcmp, 1) := by decide +kernel
theorem dL_law_514 : decode cL_law 514 = .ok (.ifCond .lt 7, 3) := by decide +kernel
theorem dL_law_517 : decode cL_law 517 = .ok (.iconst 1, 1) := by decide +kernel
theorem dL_law_518 : decode cL_law 518 = .ok (.goto 4, 3) := by decide +kernel
theorem dL_law_521 : decode cL_law 521 = .ok (.iconst 0, 1) := by decide +kernel
theorem dL_law_522 : decode cL_law 522 = .ok (.iadd, 1) := by decide +kernel
theorem dL_law_523 : decode cL_law 523 = .ok (.istore_n 3, 1) := by decide +kernel
theorem dL_law_524 : decode cL_law 524 = .ok (.goto 523, 3) := by decide +kernel
theorem dL_law_527 : decode cL_law 527 = .ok (.iload 9, 2) := by decide +kernel
theorem dL_law_529 : decode cL_law 529 = .ok (.bipush 12, 2) := by decide +kernel
theorem dL_law_531 : decode cL_law 531 = .ok (.if_icmp .ne 28, 3) := by decide +kernel
theorem dL_law_534 : decode cL_law 534 = .ok (.aload_n 1, 1) := by decide +kernel
theorem dL_law_535 : decode cL_law 535 = .ok (.bipush 38, 2) := by decide +kernel
theorem dL_law_537 : decode cL_law 537 = .ok (.bipush 97, 2) := by decide +kernel
theorem dL_law_539 : decode cL_law 539 = .ok (.iload 7, 2) := by decide +kernel
theorem dL_law_541 : decode cL_law 541 = .ok (.bipush 20, 2) := by decide +kernel
theorem dL_law_543 : decode cL_law 543 = .ok (.ishr, 1) := by decide +kernel
theorem dL_law_544 : decode cL_law 544 = .ok (.iconst 4, 1) := by decide +kernel
theorem dL_law_545 : decode cL_law 545 = .ok (.invokestatic 204, 3) := by decide +kernel
theorem dL_law_548 : decode cL_law 548 = .ok (.iadd, 1) := by decide +kernel
theorem dL_law_549 : decode cL_law 549 = .ok (.iconst 0, 1) := by decide +kernel
theorem dL_law_550 : decode cL_law 550 = .ok (.iconst 0, 1) := by decide +kernel
theorem dL_law_551 : decode cL_law 551 = .ok (.invokestatic 188, 3) := by decide +kernel
theorem dL_law_554 : decode cL_law 554 = .ok (.lstore 12, 2) := by decide +kernel
theorem dL_law_556 : decode cL_law 556 = .ok (.goto 491, 3) := by decide +kernel
theorem dL_law_559 : decode cL_law 559 = .ok (.iload 9, 2) := by decide +kernel
theorem dL_law_561 : decode cL_law 561 = .ok (.bipush 15, 2) := by decide +kernel
theorem dL_law_563 : decode cL_law 563 = .ok (.if_icmp .ge 111, 3) := by decide +kernel
theorem dL_law_566 : decode cL_law 566 = .ok (.iload 7, 2) := by decide +kernel
theorem dL_law_568 : decode cL_law 568 = .ok (.iload_n 3, 1) := by decide +kernel
theorem dL_law_569 : decode cL_law 569 = .ok (.iconst 1, 1) := by decide +kernel
theorem dL_law_570 : decode cL_law 570 = .ok (.iadd, 1) := by decide +kernel
theorem dL_law_571 : decode cL_law 571 = .ok (.invokestatic 204, 3) := by decide +kernel
theorem dL_law_574 : decode cL_law 574 = .ok (.istore 15, 2) := by decide +kernel
theorem dL_law_576 : decode cL_law 576 = .ok (.aload_n 1, 1) := by decide +kernel
theorem dL_law_577 : decode cL_law 577 = .ok (.bipush 21, 2) := by decide +kernel
theorem dL_law_579 : decode cL_law 579 = .ok (.iload 15, 2) := by decide +kernel
theorem dL_law_581 : decode cL_law 581 = .ok (.iload 8, 2) := by decide +kernel
theorem dL_law_583 : decode cL_law 583 = .ok (.iconst 0, 1) := by decide +kernel
theorem dL_law_584 : decode cL_law 584 = .ok (.invokestatic 188, 3) := by decide +kernel
theorem dL_law_587 : decode cL_law 587 = .ok (.lstore 12, 2) := by decide +kernel
theorem dL_law_589 : decode cL_law 589 = .ok (.lload 12, 2) := by decide +kernel
theorem dL_law_591 : decode cL_law 591 = .ok (.lconst 0, 1) := by decide +kernel
theorem dL_law_592 : decode cL_law 592 = .ok (.lcmp, 1) := by decide +kernel
theorem dL_law_593 : decode cL_law 593 = .ok (.ifCond .lt 7, 3) := by decide +kernel
theorem dL_law_596 : decode cL_law 596 = .ok (.iconst 1, 1) := by decide +kernel
theorem dL_law_597 : decode cL_law 597 = .ok (.goto 4, 3) := by decide +kernel
theorem dL_law_600 : decode cL_law 600 = .ok (.iconst 0, 1) := by decide +kernel
theorem dL_law_601 : decode cL_law 601 = .ok (.istore 14, 2) := by decide +kernel
theorem dL_law_603 : decode cL_law 603 = .ok (.iconst 1, 1) := by decide +kernel
theorem dL_law_604 : decode cL_law 604 = .ok (.istore 16, 2) := by decide +kernel
theorem dL_law_606 : decode cL_law 606 = .ok (.iload 16, 2) := by decide +kernel
theorem dL_law_608 : decode cL_law 608 = .ok (.iconst 5, 1) := by decide +kernel
theorem dL_law_609 : decode cL_law 609 = .ok (.if_icmp .ge 62, 3) := by decide +kernel
theorem dL_law_612 : decode cL_law 612 = .ok (.iload 14, 2) := by decide +kernel
theorem dL_law_614 : decode cL_law 614 = .ok (.ifCond .eq 57, 3) := by decide +kernel
theorem dL_law_617 : decode cL_law 617 = .ok (.aload_n 1, 1) := by decide +kernel
theorem dL_law_618 : decode cL_law 618 = .ok (.bipush 6, 2) := by decide +kernel
theorem dL_law_620 : decode cL_law 620 = .ok (.lload 12, 2) := by decide +kernel
theorem dL_law_622 : decode cL_law 622 = .ok (.l2i, 1) := by decide +kernel
theorem dL_law_623 : decode cL_law 623 = .ok (.iload 16, 2) := by decide +kernel
theorem dL_law_625 : decode cL_law 625 = .ok (.iconst 0, 1) := by decide +kernel
theorem dL_law_626 : decode cL_law 626 = .ok (.invokestatic 188, 3) := by decide +kernel
theorem dL_law_629 : decode cL_law 629 = .ok (.aload_n 1, 1) := by decide +kernel
theorem dL_law_630 : decode cL_law 630 = .ok (.bipush 6, 2) := by decide +kernel
theorem dL_law_632 : decode cL_law 632 = .ok (.iload 8, 2) := by decide +kernel
theorem dL_law_634 : decode cL_law 634 = .ok (.iload 16, 2) := by decide +kernel
theorem dL_law_636 : decode cL_law 636 = .ok (.iconst 1, 1) := by decide +kernel
theorem dL_law_637 : decode cL_law 637 = .ok (.iadd, 1) := by decide +kernel
theorem dL_law_638 : decode cL_law 638 = .ok (.iconst 0, 1) := by decide +kernel
theorem dL_law_639 : decode cL_law 639 = .ok (.invokestatic 188, 3) := by decide +kernel
theorem dL_law_642 : decode cL_law 642 = .ok (.lcmp, 1) := by decide +kernel
theorem dL_law_643 : decode cL_law 643 = .ok (.ifCond .gt 20, 3) := by decide +kernel
theorem dL_law_646 : decode cL_law 646 = .ok (.aload_n 1, 1) := by decide +kernel
theorem dL_law_647 : decode cL_law 647 = .ok (.bipush 6, 2) := by decide +kernel
theorem dL_law_649 : decode cL_law 649 = .ok (.lload 12, 2) := by decide +kernel
theorem dL_law_651 : decode cL_law 651 = .ok (.l2i, 1) := by decide +kernel
theorem dL_law_652 : decode cL_law 652 = .ok (.iload 16, 2) := by decide +kernel
theorem dL_law_654 : decode cL_law 654 = .ok (.iconst 0, 1) := by decide +kernel
theorem dL_law_655 : decode cL_law 655 = .ok (.invokestatic 188, 3) := by decide +kernel
theorem dL_law_658 : decode cL_law 658 = .ok (.lconst 1, 1) := by decide +kernel
theorem dL_law_659 : decode cL_law 659 = .ok (.lcmp, 1) := by decide +kernel
theorem dL_law_660 : decode cL_law 660 = .ok (.ifCond .ge 5, 3) := by decide +kernel
theorem dL_law_663 : decode cL_law 663 = .ok (.iconst 0, 1) := by decide +kernel
theorem dL_law_664 : decode cL_law 664 = .ok (.ireturn, 1) := by decide +kernel
theorem dL_law_665 : decode cL_law 665 = .ok (.iinc 16 1, 3) := by decide +kernel
theorem dL_law_668 : decode cL_law 668 = .ok (.goto (-62), 3) := by decide +kernel
theorem dL_law_671 : decode cL_law 671 = .ok (.goto 376, 3) := by decide +kernel
theorem dL_law_674 : decode cL_law 674 = .ok (.iload 9, 2) := by decide +kernel
theorem dL_law_676 : decode cL_law 676 = .ok (.bipush 15, 2) := by decide +kernel
theorem dL_law_678 : decode cL_law 678 = .ok (.if_icmp .ne 57, 3) := by decide +kernel
theorem dL_law_681 : decode cL_law 681 = .ok (.aload_n 1, 1) := by decide +kernel
theorem dL_law_682 : decode cL_law 682 = .ok (.bipush 18, 2) := by decide +kernel
theorem dL_law_684 : decode cL_law 684 = .ok (.iload 7, 2) := by decide +kernel
theorem dL_law_686 : decode cL_law 686 = .ok (.iload_n 3, 1) := by decide +kernel
theorem dL_law_687 : decode cL_law 687 = .ok (.iconst 1, 1) := by decide +kernel
theorem dL_law_688 : decode cL_law 688 = .ok (.iadd, 1) := by decide +kernel
theorem dL_law_689 : decode cL_law 689 = .ok (.invokestatic 204, 3) := by decide +kernel
theorem dL_law_692 : decode cL_law 692 = .ok (.bipush 97, 2) := by decide +kernel
theorem dL_law_694 : decode cL_law 694 = .ok (.iload 7, 2) := by decide +kernel
theorem dL_law_696 : decode cL_law 696 = .ok (.iconst 3, 1) := by decide +kernel
theorem dL_law_697 : decode cL_law 697 = .ok (.ishr, 1) := by decide +kernel
theorem dL_law_698 : decode cL_law 698 = .ok (.iconst 3, 1) := by decide +kernel
theorem dL_law_699 : decode cL_law 699 = .ok (.invokestatic 204, 3) := by decide +kernel
theorem dL_law_702 : decode cL_law 702 = .ok (.iadd, 1) := by decide +kernel
theorem dL_law_703 : decode cL_law 703 = .ok (.bipush 97, 2) := by decide +kernel
theorem dL_law_705 : decode cL_law 705 = .ok (.iload 7, 2) := by decide +kernel
theorem dL_law_707 : decode cL_law 707 = .ok (.iconst 5, 1) := by decide +kernel
theorem dL_law_708 : decode cL_law 708 = .ok (.ishr, 1) := by decide +kernel
theorem dL_law_709 : decode cL_law 709 = .ok (.iconst 3, 1) := by decide +kernel
theorem dL_law_710 : decode cL_law 710 = .ok (.invokestatic 204, 3) := by decide +kernel
theorem dL_law_713 : decode cL_law 713 = .ok (.iadd, 1) := by decide +kernel
theorem dL_law_714 : decode cL_law 714 = .ok (.bipush 97, 2) := by decide +kernel
theorem dL_law_716 : decode cL_law 716 = .ok (.iload 7, 2) := by decide +kernel
theorem dL_law_718 : decode cL_law 718 = .ok (.bipush 7, 2) := by decide +kernel
theorem dL_law_720 : decode cL_law 720 = .ok (.ishr, 1) := by decide +kernel
theorem dL_law_721 : decode cL_law 721 = .ok (.iconst 3, 1) := by decide +kernel
theorem dL_law_722 : decode cL_law 722 = .ok (.invokestatic 204, 3) := by decide +kernel
theorem dL_law_725 : decode cL_law 725 = .ok (.iadd, 1) := by decide +kernel
theorem dL_law_726 : decode cL_law 726 = .ok (.iconst 0, 1) := by decide +kernel
theorem dL_law_727 : decode cL_law 727 = .ok (.invokestatic 171, 3) := by decide +kernel
theorem dL_law_730 : decode cL_law 730 = .ok (.lstore 12, 2) := by decide +kernel
theorem dL_law_732 : decode cL_law 732 = .ok (.goto 315, 3) := by decide +kernel
theorem dL_law_735 : decode cL_law 735 = .ok (.iload 9, 2) := by decide +kernel
theorem dL_law_737 : decode cL_law 737 = .ok (.bipush 16, 2) := by decide +kernel
theorem dL_law_739 : decode cL_law 739 = .ok (.if_icmp .ne 50, 3) := by decide +kernel
theorem dL_law_742 : decode cL_law 742 = .ok (.aload_n 1, 1) := by decide +kernel
theorem dL_law_743 : decode cL_law 743 = .ok (.bipush 23, 2) := by decide +kernel
theorem dL_law_745 : decode cL_law 745 = .ok (.iconst 1, 1) := by decide +kernel
theorem dL_law_746 : decode cL_law 746 = .ok (.iload 7, 2) := by decide +kernel
theorem dL_law_748 : decode cL_law 748 = .ok (.iconst 3, 1) := by decide +kernel
theorem dL_law_749 : decode cL_law 749 = .ok (.invokestatic 204, 3) := by decide +kernel
theorem dL_law_752 : decode cL_law 752 = .ok (.iadd, 1) := by decide +kernel
theorem dL_law_753 : decode cL_law 753 = .ok (.iconst 1, 1) := by decide +kernel
theorem dL_law_754 : decode cL_law 754 = .ok (.iload 7, 2) := by decide +kernel
theorem dL_law_756 : decode cL_law 756 = .ok (.iconst 2, 1) := by decide +kernel
theorem dL_law_757 : decode cL_law 757 = .ok (.ishr, 1) := by decide +kernel
theorem dL_law_758 : decode cL_law 758 = .ok (.iconst 3, 1) := by decide +kernel
theorem dL_law_759 : decode cL_law 759 = .ok (.invokestatic 204, 3) := by decide +kernel
theorem dL_law_762 : decode cL_law 762 = .ok (.iadd, 1) := by decide +kernel
theorem dL_law_763 : decode cL_law 763 = .ok (.iconst 0, 1) := by decide +kernel
theorem dL_law_764 : decode cL_law 764 = .ok (.invokestatic 188, 3) := by decide +kernel
theorem dL_law_767 : decode cL_law 767 = .ok (.lstore 12, 2) := by decide +kernel
theorem dL_law_769 : decode cL_law 769 = .ok (.iload 4, 2) := by decide +kernel
theorem dL_law_771 : decode cL_law 771 = .ok (.lload 12, 2) := by decide +kernel
theorem dL_law_773 : decode cL_law 773 = .ok (.lconst 0, 1) := by decide +kernel
theorem dL_law_774 : decode cL_law 774 = .ok (.lcmp, 1) := by decide +kernel
theorem dL_law_775 : decode cL_law 775 = .ok (.ifCond .lt 7, 3) := by decide +kernel
theorem dL_law_778 : decode cL_law 778 = .ok (.iconst 1, 1) := by decide +kernel
theorem dL_law_779 : decode cL_law 779 = .ok (.goto 4, 3) := by decide +kernel
theorem dL_law_782 : decode cL_law 782 = .ok (.iconst 0, 1) := by decide +kernel
theorem dL_law_783 : decode cL_law 783 = .ok (.iadd, 1) := by decide +kernel
theorem dL_law_784 : decode cL_law 784 = .ok (.istore 4, 2) := by decide +kernel
theorem dL_law_786 : decode cL_law 786 = .ok (.goto 261, 3) := by decide +kernel
theorem dL_law_789 : decode cL_law 789 = .ok (.iload 9, 2) := by decide +kernel
theorem dL_law_791 : decode cL_law 791 = .ok (.bipush 17, 2) := by decide +kernel
theorem dL_law_793 : decode cL_law 793 = .ok (.if_icmp .ne 50, 3) := by decide +kernel
theorem dL_law_796 : decode cL_law 796 = .ok (.aload_n 1, 1) := by decide +kernel
theorem dL_law_797 : decode cL_law 797 = .ok (.bipush 24, 2) := by decide +kernel
theorem dL_law_799 : decode cL_law 799 = .ok (.iload 7, 2) := by decide +kernel
theorem dL_law_801 : decode cL_law 801 = .ok (.iload 4, 2) := by decide +kernel
theorem dL_law_803 : decode cL_law 803 = .ok (.iconst 1, 1) := by decide +kernel
theorem dL_law_804 : decode cL_law 804 = .ok (.iadd, 1) := by decide +kernel
theorem dL_law_805 : decode cL_law 805 = .ok (.invokestatic 204, 3) := by decide +kernel
theorem dL_law_808 : decode cL_law 808 = .ok (.iload 7, 2) := by decide +kernel
theorem dL_law_810 : decode cL_law 810 = .ok (.iconst 3, 1) := by decide +kernel
theorem dL_law_811 : decode cL_law 811 = .ok (.ishr, 1) := by decide +kernel
theorem dL_law_812 : decode cL_law 812 = .ok (.iconst 3, 1) := by decide +kernel
theorem dL_law_813 : decode cL_law 813 = .ok (.invokestatic 204, 3) := by decide +kernel
theorem dL_law_816 : decode cL_law 816 = .ok (.iload 7, 2) := by decide +kernel
theorem dL_law_818 : decode cL_law 818 = .ok (.iconst 5, 1) := by decide +kernel
theorem dL_law_819 : decode cL_law 819 = .ok (.ishr, 1) := by decide +kernel
theorem dL_law_820 : decode cL_law 820 = .ok (.iconst 3, 1) := by decide +kernel
theorem dL_law_821 : decode cL_law 821 = .ok (.invokestatic 204, 3) := by decide +kernel
theorem dL_law_824 : decode cL_law 824 = .ok (.iload 7, 2) := by decide +kernel
theorem dL_law_826 : decode cL_law 826 = .ok (.bipush 7, 2) := by decide +kernel
theorem dL_law_828 : decode cL_law 828 = .ok (.ishr, 1) := by decide +kernel
theorem dL_law_829 : decode cL_law 829 = .ok (.bipush 11, 2) := by decide +kernel
theorem dL_law_831 : decode cL_law 831 = .ok (.invokestatic 204, 3) := by decide +kernel
theorem dL_law_834 : decode cL_law 834 = .ok (.iconst 0, 1) := by decide +kernel
theorem dL_law_835 : decode cL_law 835 = .ok (.invokestatic 171, 3) := by decide +kernel
theorem dL_law_838 : decode cL_law 838 = .ok (.lstore 12, 2) := by decide +kernel
theorem dL_law_840 : decode cL_law 840 = .ok (.goto 207, 3) := by decide +kernel
theorem dL_law_843 : decode cL_law 843 = .ok (.iload 9, 2) := by decide +kernel
theorem dL_law_845 : decode cL_law 845 = .ok (.bipush 18, 2) := by decide +kernel
theorem dL_law_847 : decode cL_law 847 = .ok (.if_icmp .ne 90, 3) := by decide +kernel
theorem dL_law_850 : decode cL_law 850 = .ok (.iload 7, 2) := by decide +kernel
theorem dL_law_852 : decode cL_law 852 = .ok (.iload 4, 2) := by decide +kernel
theorem dL_law_854 : decode cL_law 854 = .ok (.iconst 1, 1) := by decide +kernel
theorem dL_law_855 : decode cL_law 855 = .ok (.iadd, 1) := by decide +kernel
theorem dL_law_856 : decode cL_law 856 = .ok (.invokestatic 204, 3) := by decide +kernel
theorem dL_law_859 : decode cL_law 859 = .ok (.istore 15, 2) := by decide +kernel
theorem dL_law_861 : decode cL_law 861 = .ok (.aload_n 1, 1) := by decide +kernel
theorem dL_law_862 : decode cL_law 862 = .ok (.bipush 30, 2) := by decide +kernel
theorem dL_law_864 : decode cL_law 864 = .ok (.iload 15, 2) := by decide +kernel
theorem dL_law_866 : decode cL_law 866 = .ok (.iconst 3, 1) := by decide +kernel
theorem dL_law_867 : decode cL_law 867 = .ok (.iconst 0, 1) := by decide +kernel
theorem dL_law_868 : decode cL_law 868 = .ok (.invokestatic 188, 3) := by decide +kernel
theorem dL_law_871 : decode cL_law 871 = .ok (.lstore 16, 2) := by decide +kernel
theorem dL_law_873 : decode cL_law 873 = .ok (.aload_n 1, 1) := by decide +kernel
theorem dL_law_874 : decode cL_law 874 = .ok (.bipush 26, 2) := by decide +kernel
theorem dL_law_876 : decode cL_law 876 = .ok (.iload 15, 2) := by decide +kernel
theorem dL_law_878 : decode cL_law 878 = .ok (.iload 7, 2) := by decide +kernel
theorem dL_law_880 : decode cL_law 880 = .ok (.iconst 3, 1) := by decide +kernel
theorem dL_law_881 : decode cL_law 881 = .ok (.ishr, 1) := by decide +kernel
theorem dL_law_882 : decode cL_law 882 = .ok (.iconst 3, 1) := by decide +kernel
theorem dL_law_883 : decode cL_law 883 = .ok (.invokestatic 204, 3) := by decide +kernel
theorem dL_law_886 : decode cL_law 886 = .ok (.iload 7, 2) := by decide +kernel
theorem dL_law_888 : decode cL_law 888 = .ok (.iconst 5, 1) := by decide +kernel
theorem dL_law_889 : decode cL_law 889 = .ok (.ishr, 1) := by decide +kernel
theorem dL_law_890 : decode cL_law 890 = .ok (.iconst 3, 1) := by decide +kernel
theorem dL_law_891 : decode cL_law 891 = .ok (.invokestatic 204, 3) := by decide +kernel
theorem dL_law_894 : decode cL_law 894 = .ok (.iload 7, 2) := by decide +kernel
theorem dL_law_896 : decode cL_law 896 = .ok (.bipush 7, 2) := by decide +kernel
theorem dL_law_898 : decode cL_law 898 = .ok (.ishr, 1) := by decide +kernel
theorem dL_law_899 : decode cL_law 899 = .ok (.iconst 3, 1) := by decide +kernel
theorem dL_law_900 : decode cL_law 900 = .ok (.invokestatic 204, 3) := by decide +kernel
theorem dL_law_903 : decode cL_law 903 = .ok (.iconst 0, 1) := by decide +kernel
theorem dL_law_904 : decode cL_law 904 = .ok (.invokestatic 171, 3) := by decide +kernel
theorem dL_law_907 : decode cL_law 907 = .ok (.lstore 12, 2) := by decide +kernel
theorem dL_law_909 : decode cL_law 909 = .ok (.lload 12, 2) := by decide +kernel
theorem dL_law_911 : decode cL_law 911 = .ok (.lconst 0, 1) := by decide +kernel
theorem dL_law_912 : decode cL_law 912 = .ok (.lcmp, 1) := by decide +kernel
theorem dL_law_913 : decode cL_law 913 = .ok (.ifCond .lt 21, 3) := by decide +kernel
theorem dL_law_916 : decode cL_law 916 = .ok (.aload_n 1, 1) := by decide +kernel
theorem dL_law_917 : decode cL_law 917 = .ok (.bipush 30, 2) := by decide +kernel
theorem dL_law_919 : decode cL_law 919 = .ok (.iload 15, 2) := by decide +kernel
theorem dL_law_921 : decode cL_law 921 = .ok (.iconst 3, 1) := by decide +kernel
theorem dL_law_922 : decode cL_law 922 = .ok (.iconst 0, 1) := by decide +kernel
theorem dL_law_923 : decode cL_law 923 = .ok (.invokestatic 188, 3) := by decide +kernel
theorem dL_law_926 : decode cL_law 926 = .ok (.lload 16, 2) := by decide +kernel
theorem dL_law_928 : decode cL_law 928 = .ok (.lcmp, 1) := by decide +kernel
theorem dL_law_929 : decode cL_law 929 = .ok (.ifCond .eq 5, 3) := by decide +kernel
theorem dL_law_932 : decode cL_law 932 = .ok (.iconst 0, 1) := by decide +kernel
theorem dL_law_933 : decode cL_law 933 = .ok (.ireturn, 1) := by decide +kernel
theorem dL_law_934 : decode cL_law 934 = .ok (.goto 113, 3) := by decide +kernel
theorem dL_law_937 : decode cL_law 937 = .ok (.aload_n 1, 1) := by decide +kernel
theorem dL_law_938 : decode cL_law 938 = .ok (.bipush 14, 2) := by decide +kernel
theorem dL_law_940 : decode cL_law 940 = .ok (.iload 8, 2) := by decide +kernel
theorem dL_law_942 : decode cL_law 942 = .ok (.iload 7, 2) := by decide +kernel
theorem dL_law_944 : decode cL_law 944 = .ok (.iload_n 2, 1) := by decide +kernel
theorem dL_law_945 : decode cL_law 945 = .ok (.iconst 1, 1) := by decide +kernel
theorem dL_law_946 : decode cL_law 946 = .ok (.iadd, 1) := by decide +kernel
theorem dL_law_947 : decode cL_law 947 = .ok (.invokestatic 204, 3) := by decide +kernel
theorem dL_law_950 : decode cL_law 950 = .ok (.iconst 0, 1) := by decide +kernel
theorem dL_law_951 : decode cL_law 951 = .ok (.invokestatic 188, 3) := by decide +kernel
theorem dL_law_954 : decode cL_law 954 = .ok (.lstore 12, 2) := by decide +kernel
theorem dL_law_956 : decode cL_law 956 = .ok (.iload 7, 2) := by decide +kernel
theorem dL_law_958 : decode cL_law 958 = .ok (.iload_n 2, 1) := by decide +kernel
theorem dL_law_959 : decode cL_law 959 = .ok (.iconst 1, 1) := by decide +kernel
theorem dL_law_960 : decode cL_law 960 = .ok (.iadd, 1) := by decide +kernel
theorem dL_law_961 : decode cL_law 961 = .ok (.invokestatic 204, 3) := by decide +kernel
theorem dL_law_964 : decode cL_law 964 = .ok (.istore 15, 2) := by decide +kernel
theorem dL_law_966 : decode cL_law 966 = .ok (.iconst 0, 1) := by decide +kernel
theorem dL_law_967 : decode cL_law 967 = .ok (.istore 16, 2) := by decide +kernel
theorem dL_law_969 : decode cL_law 969 = .ok (.iload 16, 2) := by decide +kernel
theorem dL_law_971 : decode cL_law 971 = .ok (.iconst 5, 1) := by decide +kernel
theorem dL_law_972 : decode cL_law 972 = .ok (.if_icmp .ge 75, 3) := by decide +kernel
theorem dL_law_975 : decode cL_law 975 = .ok (.lload 12, 2) := by decide +kernel
theorem dL_law_977 : decode cL_law 977 = .ok (.lconst 1, 1) := by decide +kernel
theorem dL_law_978 : decode cL_law 978 = .ok (.lcmp, 1) := by decide +kernel
theorem dL_law_979 : decode cL_law 979 = .ok (.ifCond .ne 68, 3) := by decide +kernel
theorem dL_law_982 : decode cL_law 982 = .ok (.aload_n 1, 1) := by decide +kernel
theorem dL_law_983 : decode cL_law 983 = .ok (.bipush 6, 2) := by decide +kernel
theorem dL_law_985 : decode cL_law 985 = .ok (.iload 8, 2) := by decide +kernel
theorem dL_law_987 : decode cL_law 987 = .ok (.iload 16, 2) := by decide +kernel
theorem dL_law_989 : decode cL_law 989 = .ok (.iconst 0, 1) := by decide +kernel
theorem dL_law_990 : decode cL_law 990 = .ok (.invokestatic 188, 3) := by decide +kernel
theorem dL_law_993 : decode cL_law 993 = .ok (.aload_n 1, 1) := by decide +kernel
theorem dL_law_994 : decode cL_law 994 = .ok (.bipush 6, 2) := by decide +kernel
theorem dL_law_996 : decode cL_law 996 = .ok (.iload 15, 2) := by decide +kernel
theorem dL_law_998 : decode cL_law 998 = .ok (.iload 16, 2) := by decide +kernel
theorem dL_law_1000 : decode cL_law 1000 = .ok (.iconst 0, 1) := by decide +kernel
theorem dL_law_1001 : decode cL_law 1001 = .ok (.invokestatic 188, 3) := by decide +kernel
theorem dL_law_1004 : decode cL_law 1004 = .ok (.lcmp, 1) := by decide +kernel
theorem dL_law_1005 : decode cL_law 1005 = .ok (.ifCond .ne 34, 3) := by decide +kernel
theorem dL_law_1008 : decode cL_law 1008 = .ok (.iload 16, 2) := by decide +kernel
theorem dL_law_1010 : decode cL_law 1010 = .ok (.ifCond .le 31, 3) := by decide +kernel
theorem dL_law_1013 : decode cL_law 1013 = .ok (.aload_n 1, 1) := by decide +kernel
theorem dL_law_1014 : decode cL_law 1014 = .ok (.bipush 8, 2) := by decide +kernel
theorem dL_law_1016 : decode cL_law 1016 = .ok (.iload 8, 2) := by decide +kernel
theorem dL_law_1018 : decode cL_law 1018 = .ok (.iload 16, 2) := by decide +kernel
theorem dL_law_1020 : decode cL_law 1020 = .ok (.iconst 0, 1) := by decide +kernel
theorem dL_law_1021 : decode cL_law 1021 = .ok (.invokestatic 188, 3) := by decide +kernel
theorem dL_law_1024 : decode cL_law 1024 = .ok (.aload_n 1, 1) := by decide +kernel
theorem dL_law_1025 : decode cL_law 1025 = .ok (.bipush 8, 2) := by decide +kernel
theorem dL_law_1027 : decode cL_law 1027 = .ok (.iload 15, 2) := by decide +kernel
theorem dL_law_1029 : decode cL_law 1029 = .ok (.iload 16, 2) := by decide +kernel
theorem dL_law_1031 : decode cL_law 1031 = .ok (.iconst 0, 1) := by decide +kernel
theorem dL_law_1032 : decode cL_law 1032 = .ok (.invokestatic 188, 3) := by decide +kernel
theorem dL_law_1035 : decode cL_law 1035 = .ok (.lcmp, 1) := by decide +kernel
theorem dL_law_1036 : decode cL_law 1036 = .ok (.ifCond .eq 5, 3) := by decide +kernel
theorem dL_law_1039 : decode cL_law 1039 = .ok (.iconst 0, 1) := by decide +kernel
theorem dL_law_1040 : decode cL_law 1040 = .ok (.ireturn, 1) := by decide +kernel
theorem dL_law_1041 : decode cL_law 1041 = .ok (.iinc 16 1, 3) := by decide +kernel
theorem dL_law_1044 : decode cL_law 1044 = .ok (.goto (-75), 3) := by decide +kernel
theorem dL_law_1047 : decode cL_law 1047 = .ok (.iload 14, 2) := by decide +kernel
theorem dL_law_1049 : decode cL_law 1049 = .ok (.ifCond .eq 13, 3) := by decide +kernel
theorem dL_law_1052 : decode cL_law 1052 = .ok (.lload 12, 2) := by decide +kernel
theorem dL_law_1054 : decode cL_law 1054 = .ok (.iload_n 2, 1) := by decide +kernel
theorem dL_law_1055 : decode cL_law 1055 = .ok (.i2l, 1) := by decide +kernel
theorem dL_law_1056 : decode cL_law 1056 = .ok (.lcmp, 1) := by decide +kernel
theorem dL_law_1057 : decode cL_law 1057 = .ok (.ifCond .eq 5, 3) := by decide +kernel
theorem dL_law_1060 : decode cL_law 1060 = .ok (.iconst 0, 1) := by decide +kernel
theorem dL_law_1061 : decode cL_law 1061 = .ok (.ireturn, 1) := by decide +kernel
theorem dL_law_1062 : decode cL_law 1062 = .ok (.iload_n 2, 1) := by decide +kernel
theorem dL_law_1063 : decode cL_law 1063 = .ok (.iload 14, 2) := by decide +kernel
theorem dL_law_1065 : decode cL_law 1065 = .ok (.ifCond .eq 7, 3) := by decide +kernel
theorem dL_law_1068 : decode cL_law 1068 = .ok (.iconst 1, 1) := by decide +kernel
theorem dL_law_1069 : decode cL_law 1069 = .ok (.goto 4, 3) := by decide +kernel
theorem dL_law_1072 : decode cL_law 1072 = .ok (.iconst 0, 1) := by decide +kernel
theorem dL_law_1073 : decode cL_law 1073 = .ok (.iadd, 1) := by decide +kernel
theorem dL_law_1074 : decode cL_law 1074 = .ok (.istore_n 2, 1) := by decide +kernel
theorem dL_law_1075 : decode cL_law 1075 = .ok (.lload 12, 2) := by decide +kernel
theorem dL_law_1077 : decode cL_law 1077 = .ok (.ldc2_w 149, 3) := by decide +kernel
theorem dL_law_1080 : decode cL_law 1080 = .ok (.lcmp, 1) := by decide +kernel
theorem dL_law_1081 : decode cL_law 1081 = .ok (.ifCond .gt 18, 3) := by decide +kernel
theorem dL_law_1084 : decode cL_law 1084 = .ok (.aload_n 1, 1) := by decide +kernel
theorem dL_law_1085 : decode cL_law 1085 = .ok (.iload_n 2, 1) := by decide +kernel
theorem dL_law_1086 : decode cL_law 1086 = .ok (.iload 4, 2) := by decide +kernel
theorem dL_law_1088 : decode cL_law 1088 = .ok (.invokestatic 233, 3) := by decide +kernel
theorem dL_law_1091 : decode cL_law 1091 = .ok (.lload 10, 2) := by decide +kernel
theorem dL_law_1093 : decode cL_law 1093 = .ok (.lcmp, 1) := by decide +kernel
theorem dL_law_1094 : decode cL_law 1094 = .ok (.ifCond .eq 5, 3) := by decide +kernel
theorem dL_law_1097 : decode cL_law 1097 = .ok (.iconst 0, 1) := by decide +kernel
theorem dL_law_1098 : decode cL_law 1098 = .ok (.ireturn, 1) := by decide +kernel
theorem dL_law_1099 : decode cL_law 1099 = .ok (.iconst 0, 1) := by decide +kernel
theorem dL_law_1100 : decode cL_law 1100 = .ok (.istore 15, 2) := by decide +kernel
theorem dL_law_1102 : decode cL_law 1102 = .ok (.iload 15, 2) := by decide +kernel
theorem dL_law_1104 : decode cL_law 1104 = .ok (.iload_n 2, 1) := by decide +kernel
theorem dL_law_1105 : decode cL_law 1105 = .ok (.if_icmp .ge 310, 3) := by decide +kernel
theorem dL_law_1108 : decode cL_law 1108 = .ok (.aload_n 1, 1) := by decide +kernel
theorem dL_law_1109 : decode cL_law 1109 = .ok (.iconst 5, 1) := by decide +kernel
theorem dL_law_1110 : decode cL_law 1110 = .ok (.iload 15, 2) := by decide +kernel
theorem dL_law_1112 : decode cL_law 1112 = .ok (.iconst 0, 1) := by decide +kernel
theorem dL_law_1113 : decode cL_law 1113 = .ok (.iconst 0, 1) := by decide +kernel
theorem dL_law_1114 : decode cL_law 1114 = .ok (.invokestatic 188, 3) := by decide +kernel
theorem dL_law_1117 : decode cL_law 1117 = .ok (.lstore 16, 2) := by decide +kernel
theorem dL_law_1119 : decode cL_law 1119 = .ok (.aload_n 1, 1) := by decide +kernel
theorem dL_law_1120 : decode cL_law 1120 = .ok (.bipush 6, 2) := by decide +kernel
theorem dL_law_1122 : decode cL_law 1122 = .ok (.iload 15, 2) := by decide +kernel
theorem dL_law_1124 : decode cL_law 1124 = .ok (.iconst 0, 1) := by decide +kernel
theorem dL_law_1125 : decode cL_law 1125 = .ok (.iconst 0, 1) := by decide +kernel
theorem dL_law_1126 : decode cL_law 1126 = .ok (.invokestatic 188, 3) := by decide +kernel
theorem dL_law_1129 : decode cL_law 1129 = .ok (.lstore 18, 2) := by decide +kernel
theorem dL_law_1131 : decode cL_law 1131 = .ok (.lload 18, 2) := by decide +kernel
theorem dL_law_1133 : decode cL_law 1133 = .ok (.lload 16, 2) := by decide +kernel
theorem dL_law_1135 : decode cL_law 1135 = .ok (.lconst 0, 1) := by decide +kernel
theorem dL_law_1136 : decode cL_law 1136 = .ok (.lcmp, 1) := by decide +kernel
theorem dL_law_1137 : decode cL_law 1137 = .ok (.ifCond .le 7, 3) := by decide +kernel
theorem dL_law_1140 : decode cL_law 1140 = .ok (.lconst 1, 1) := by decide +kernel
theorem dL_law_1141 : decode cL_law 1141 = .ok (.goto 4, 3) := by decide +kernel
theorem dL_law_1144 : decode cL_law 1144 = .ok (.lconst 0, 1) := by decide +kernel
theorem dL_law_1145 : decode cL_law 1145 = .ok (.lcmp, 1) := by decide +kernel
theorem dL_law_1146 : decode cL_law 1146 = .ok (.ifCond .eq 5, 3) := by decide +kernel
theorem dL_law_1149 : decode cL_law 1149 = .ok (.iconst 0, 1) := by decide +kernel
theorem dL_law_1150 : decode cL_law 1150 = .ok (.ireturn, 1) := by decide +kernel
theorem dL_law_1151 : decode cL_law 1151 = .ok (.iconst 1, 1) := by decide +kernel
theorem dL_law_1152 : decode cL_law 1152 = .ok (.istore 20, 2) := by decide +kernel
theorem dL_law_1154 : decode cL_law 1154 = .ok (.iload 20, 2) := by decide +kernel
theorem dL_law_1156 : decode cL_law 1156 = .ok (.iconst 5, 1) := by decide +kernel
theorem dL_law_1157 : decode cL_law 1157 = .ok (.if_icmp .ge 76, 3) := by decide +kernel
theorem dL_law_1160 : decode cL_law 1160 = .ok (.aload_n 1, 1) := by decide +kernel
theorem dL_law_1161 : decode cL_law 1161 = .ok (.bipush 6, 2) := by decide +kernel
theorem dL_law_1163 : decode cL_law 1163 = .ok (.iload 15, 2) := by decide +kernel
theorem dL_law_1165 : decode cL_law 1165 = .ok (.iload 20, 2) := by decide +kernel
theorem dL_law_1167 : decode cL_law 1167 = .ok (.iconst 0, 1) := by decide +kernel
theorem dL_law_1168 : decode cL_law 1168 = .ok (.invokestatic 188, 3) := by decide +kernel
theorem dL_law_1171 : decode cL_law 1171 = .ok (.lstore 21, 2) := by decide +kernel
theorem dL_law_1173 : decode cL_law 1173 = .ok (.aload_n 1, 1) := by decide +kernel
theorem dL_law_1174 : decode cL_law 1174 = .ok (.bipush 8, 2) := by decide +kernel
theorem dL_law_1176 : decode cL_law 1176 = .ok (.iload 15, 2) := by decide +kernel
theorem dL_law_1178 : decode cL_law 1178 = .ok (.iload 20, 2) := by decide +kernel
theorem dL_law_1180 : decode cL_law 1180 = .ok (.iconst 0, 1) := by decide +kernel
theorem dL_law_1181 : decode cL_law 1181 = .ok (.invokestatic 188, 3) := by decide +kernel
theorem dL_law_1184 : decode cL_law 1184 = .ok (.lstore 23, 2) := by decide +kernel
theorem dL_law_1186 : decode cL_law 1186 = .ok (.lload 21, 2) := by decide +kernel
theorem dL_law_1188 : decode cL_law 1188 = .ok (.lload 18, 2) := by decide +kernel
theorem dL_law_1190 : decode cL_law 1190 = .ok (.lcmp, 1) := by decide +kernel
theorem dL_law_1191 : decode cL_law 1191 = .ok (.ifCond .lt 30, 3) := by decide +kernel
theorem dL_law_1194 : decode cL_law 1194 = .ok (.lload 21, 2) := by decide +kernel
theorem dL_law_1196 : decode cL_law 1196 = .ok (.ldc2_w 237, 3) := by decide +kernel
theorem dL_law_1199 : decode cL_law 1199 = .ok (.lload 18, 2) := by decide +kernel
theorem dL_law_1201 : decode cL_law 1201 = .ok (.lmul, 1) := by decide +kernel
theorem dL_law_1202 : decode cL_law 1202 = .ok (.lcmp, 1) := by decide +kernel
theorem dL_law_1203 : decode cL_law 1203 = .ok (.ifCond .gt 18, 3) := by decide +kernel
theorem dL_law_1206 : decode cL_law 1206 = .ok (.lload 23, 2) := by decide +kernel
theorem dL_law_1208 : decode cL_law 1208 = .ok (.lconst 0, 1) := by decide +kernel
theorem dL_law_1209 : decode cL_law 1209 = .ok (.lcmp, 1) := by decide +kernel
theorem dL_law_1210 : decode cL_law 1210 = .ok (.ifCond .lt 11, 3) := by decide +kernel
theorem dL_law_1213 : decode cL_law 1213 = .ok (.lload 23, 2) := by decide +kernel
theorem dL_law_1215 : decode cL_law 1215 = .ok (.lload 21, 2) := by decide +kernel
theorem dL_law_1217 : decode cL_law 1217 = .ok (.lcmp, 1) := by decide +kernel
theorem dL_law_1218 : decode cL_law 1218 = .ok (.ifCond .le 5, 3) := by decide +kernel
theorem dL_law_1221 : decode cL_law 1221 = .ok (.iconst 0, 1) := by decide +kernel
theorem dL_law_1222 : decode cL_law 1222 = .ok (.ireturn, 1) := by decide +kernel
theorem dL_law_1223 : decode cL_law 1223 = .ok (.lload 21, 2) := by decide +kernel
theorem dL_law_1225 : decode cL_law 1225 = .ok (.lstore 18, 2) := by decide +kernel
theorem dL_law_1227 : decode cL_law 1227 = .ok (.iinc 20 1, 3) := by decide +kernel
theorem dL_law_1230 : decode cL_law 1230 = .ok (.goto (-76), 3) := by decide +kernel
theorem dL_law_1233 : decode cL_law 1233 = .ok (.aload_n 1, 1) := by decide +kernel
theorem dL_law_1234 : decode cL_law 1234 = .ok (.bipush 13, 2) := by decide +kernel
theorem dL_law_1236 : decode cL_law 1236 = .ok (.iload 15, 2) := by decide +kernel
theorem dL_law_1238 : decode cL_law 1238 = .ok (.iconst 0, 1) := by decide +kernel
theorem dL_law_1239 : decode cL_law 1239 = .ok (.iconst 0, 1) := by decide +kernel
theorem dL_law_1240 : decode cL_law 1240 = .ok (.invokestatic 188, 3) := by decide +kernel
theorem dL_law_1243 : decode cL_law 1243 = .ok (.lstore 20, 2) := by decide +kernel
theorem dL_law_1245 : decode cL_law 1245 = .ok (.aload_n 1, 1) := by decide +kernel
theorem dL_law_1246 : decode cL_law 1246 = .ok (.bipush 9, 2) := by decide +kernel
theorem dL_law_1248 : decode cL_law 1248 = .ok (.iload 15, 2) := by decide +kernel
theorem dL_law_1250 : decode cL_law 1250 = .ok (.iconst 0, 1) := by decide +kernel
theorem dL_law_1251 : decode cL_law 1251 = .ok (.iconst 0, 1) := by decide +kernel
theorem dL_law_1252 : decode cL_law 1252 = .ok (.invokestatic 188, 3) := by decide +kernel
theorem dL_law_1255 : decode cL_law 1255 = .ok (.lstore 22, 2) := by decide +kernel
theorem dL_law_1257 : decode cL_law 1257 = .ok (.lload 16, 2) := by decide +kernel
theorem dL_law_1259 : decode cL_law 1259 = .ok (.lconst 0, 1) := by decide +kernel
theorem dL_law_1260 : decode cL_law 1260 = .ok (.lcmp, 1) := by decide +kernel
theorem dL_law_1261 : decode cL_law 1261 = .ok (.ifCond .le 17, 3) := by decide +kernel
theorem dL_law_1264 : decode cL_law 1264 = .ok (.lload 20, 2) := by decide +kernel
theorem dL_law_1266 : decode cL_law 1266 = .ok (.lconst 0, 1) := by decide +kernel
theorem dL_law_1267 : decode cL_law 1267 = .ok (.lcmp, 1) := by decide +kernel
theorem dL_law_1268 : decode cL_law 1268 = .ok (.ifCond .eq 32, 3) := by decide +kernel
theorem dL_law_1271 : decode cL_law 1271 = .ok (.lload 22, 2) := by decide +kernel
theorem dL_law_1273 : decode cL_law 1273 = .ok (.lconst 1, 1) := by decide +kernel
theorem dL_law_1274 : decode cL_law 1274 = .ok (.lcmp, 1) := by decide +kernel
theorem dL_law_1275 : decode cL_law 1275 = .ok (.ifCond .lt 25, 3) := by decide +kernel
theorem dL_law_1278 : decode cL_law 1278 = .ok (.aload_n 1, 1) := by decide +kernel
theorem dL_law_1279 : decode cL_law 1279 = .ok (.bipush 11, 2) := by decide +kernel
theorem dL_law_1281 : decode cL_law 1281 = .ok (.iload 15, 2) := by decide +kernel
theorem dL_law_1283 : decode cL_law 1283 = .ok (.iconst 0, 1) := by decide +kernel
theorem dL_law_1284 : decode cL_law 1284 = .ok (.iconst 0, 1) := by decide +kernel
theorem dL_law_1285 : decode cL_law 1285 = .ok (.invokestatic 188, 3) := by decide +kernel
theorem dL_law_1288 : decode cL_law 1288 = .ok (.lconst 1, 1) := by decide +kernel
theorem dL_law_1289 : decode cL_law 1289 = .ok (.lcmp, 1) := by decide +kernel
theorem dL_law_1290 : decode cL_law 1290 = .ok (.ifCond .ne 12, 3) := by decide +kernel
theorem dL_law_1293 : decode cL_law 1293 = .ok (.lload 22, 2) := by decide +kernel
theorem dL_law_1295 : decode cL_law 1295 = .ok (.lconst 1, 1) := by decide +kernel
theorem dL_law_1296 : decode cL_law 1296 = .ok (.lcmp, 1) := by decide +kernel
theorem dL_law_1297 : decode cL_law 1297 = .ok (.ifCond .ge 5, 3) := by decide +kernel
theorem dL_law_1300 : decode cL_law 1300 = .ok (.iconst 0, 1) := by decide +kernel
theorem dL_law_1301 : decode cL_law 1301 = .ok (.ireturn, 1) := by decide +kernel
theorem dL_law_1302 : decode cL_law 1302 = .ok (.lload 16, 2) := by decide +kernel
theorem dL_law_1304 : decode cL_law 1304 = .ok (.lconst 0, 1) := by decide +kernel
theorem dL_law_1305 : decode cL_law 1305 = .ok (.lcmp, 1) := by decide +kernel
theorem dL_law_1306 : decode cL_law 1306 = .ok (.ifCond .le 77, 3) := by decide +kernel
theorem dL_law_1309 : decode cL_law 1309 = .ok (.aload_n 1, 1) := by decide +kernel
theorem dL_law_1310 : decode cL_law 1310 = .ok (.bipush 16, 2) := by decide +kernel
theorem dL_law_1312 : decode cL_law 1312 = .ok (.iload 15, 2) := by decide +kernel
theorem dL_law_1314 : decode cL_law 1314 = .ok (.iconst 2, 1) := by decide +kernel
theorem dL_law_1315 : decode cL_law 1315 = .ok (.iconst 1, 1) := by decide +kernel
theorem dL_law_1316 : decode cL_law 1316 = .ok (.invokestatic 188, 3) := by decide +kernel
theorem dL_law_1319 : decode cL_law 1319 = .ok (.aload_n 1, 1) := by decide +kernel
theorem dL_law_1320 : decode cL_law 1320 = .ok (.bipush 16, 2) := by decide +kernel
theorem dL_law_1322 : decode cL_law 1322 = .ok (.iload 15, 2) := by decide +kernel
theorem dL_law_1324 : decode cL_law 1324 = .ok (.iconst 2, 1) := by decide +kernel
theorem dL_law_1325 : decode cL_law 1325 = .ok (.iconst 0, 1) := by decide +kernel
theorem dL_law_1326 : decode cL_law 1326 = .ok (.invokestatic 188, 3) := by decide +kernel
theorem dL_law_1329 : decode cL_law 1329 = .ok (.lcmp, 1) := by decide +kernel
theorem dL_law_1330 : decode cL_law 1330 = .ok (.ifCond .gt 51, 3) := by decide +kernel
theorem dL_law_1333 : decode cL_law 1333 = .ok (.aload_n 1, 1) := by decide +kernel
theorem dL_law_1334 : decode cL_law 1334 = .ok (.bipush 16, 2) := by decide +kernel
theorem dL_law_1336 : decode cL_law 1336 = .ok (.iload 15, 2) := by decide +kernel
theorem dL_law_1338 : decode cL_law 1338 = .ok (.iconst 3, 1) := by decide +kernel
theorem dL_law_1339 : decode cL_law 1339 = .ok (.iconst 1, 1) := by decide +kernel
theorem dL_law_1340 : decode cL_law 1340 = .ok (.invokestatic 188, 3) := by decide +kernel
theorem dL_law_1343 : decode cL_law 1343 = .ok (.aload_n 1, 1) := by decide +kernel
theorem dL_law_1344 : decode cL_law 1344 = .ok (.bipush 16, 2) := by decide +kernel
theorem dL_law_1346 : decode cL_law 1346 = .ok (.iload 15, 2) := by decide +kernel
theorem dL_law_1348 : decode cL_law 1348 = .ok (.iconst 2, 1) := by decide +kernel
theorem dL_law_1349 : decode cL_law 1349 = .ok (.iconst 1, 1) := by decide +kernel
theorem dL_law_1350 : decode cL_law 1350 = .ok (.invokestatic 188, 3) := by decide +kernel
theorem dL_law_1353 : decode cL_law 1353 = .ok (.lcmp, 1) := by decide +kernel
theorem dL_law_1354 : decode cL_law 1354 = .ok (.ifCond .lt 27, 3) := by decide +kernel
theorem dL_law_1357 : decode cL_law 1357 = .ok (.aload_n 1, 1) := by decide +kernel
theorem dL_law_1358 : decode cL_law 1358 = .ok (.bipush 16, 2) := by decide +kernel
theorem dL_law_1360 : decode cL_law 1360 = .ok (.iload 15, 2) := by decide +kernel
theorem dL_law_1362 : decode cL_law 1362 = .ok (.iconst 3, 1) := by decide +kernel
theorem dL_law_1363 : decode cL_law 1363 = .ok (.iconst 0, 1) := by decide +kernel
theorem dL_law_1364 : decode cL_law 1364 = .ok (.invokestatic 188, 3) := by decide +kernel
theorem dL_law_1367 : decode cL_law 1367 = .ok (.aload_n 1, 1) := by decide +kernel
theorem dL_law_1368 : decode cL_law 1368 = .ok (.bipush 16, 2) := by decide +kernel
theorem dL_law_1370 : decode cL_law 1370 = .ok (.iload 15, 2) := by decide +kernel
theorem dL_law_1372 : decode cL_law 1372 = .ok (.iconst 2, 1) := by decide +kernel
theorem dL_law_1373 : decode cL_law 1373 = .ok (.iconst 0, 1) := by decide +kernel
theorem dL_law_1374 : decode cL_law 1374 = .ok (.invokestatic 188, 3) := by decide +kernel
theorem dL_law_1377 : decode cL_law 1377 = .ok (.lcmp, 1) := by decide +kernel
theorem dL_law_1378 : decode cL_law 1378 = .ok (.ifCond .le 5, 3) := by decide +kernel
theorem dL_law_1381 : decode cL_law 1381 = .ok (.iconst 0, 1) := by decide +kernel
theorem dL_law_1382 : decode cL_law 1382 = .ok (.ireturn, 1) := by decide +kernel
theorem dL_law_1383 : decode cL_law 1383 = .ok (.lload 16, 2) := by decide +kernel
theorem dL_law_1385 : decode cL_law 1385 = .ok (.ldc2_w 239, 3) := by decide +kernel
theorem dL_law_1388 : decode cL_law 1388 = .ok (.lcmp, 1) := by decide +kernel
theorem dL_law_1389 : decode cL_law 1389 = .ok (.ifCond .gt 20, 3) := by decide +kernel
theorem dL_law_1392 : decode cL_law 1392 = .ok (.aload_n 1, 1) := by decide +kernel
theorem dL_law_1393 : decode cL_law 1393 = .ok (.bipush 15, 2) := by decide +kernel
theorem dL_law_1395 : decode cL_law 1395 = .ok (.iload 15, 2) := by decide +kernel
theorem dL_law_1397 : decode cL_law 1397 = .ok (.iconst 0, 1) := by decide +kernel
theorem dL_law_1398 : decode cL_law 1398 = .ok (.iconst 0, 1) := by decide +kernel
theorem dL_law_1399 : decode cL_law 1399 = .ok (.invokestatic 188, 3) := by decide +kernel
theorem dL_law_1402 : decode cL_law 1402 = .ok (.lconst 1, 1) := by decide +kernel
theorem dL_law_1403 : decode cL_law 1403 = .ok (.lcmp, 1) := by decide +kernel
theorem dL_law_1404 : decode cL_law 1404 = .ok (.ifCond .eq 5, 3) := by decide +kernel
theorem dL_law_1407 : decode cL_law 1407 = .ok (.iconst 0, 1) := by decide +kernel
theorem dL_law_1408 : decode cL_law 1408 = .ok (.ireturn, 1) := by decide +kernel
theorem dL_law_1409 : decode cL_law 1409 = .ok (.iinc 15 1, 3) := by decide +kernel
theorem dL_law_1412 : decode cL_law 1412 = .ok (.goto (-310), 3) := by decide +kernel
theorem dL_law_1415 : decode cL_law 1415 = .ok (.aload_n 1, 1) := by decide +kernel
theorem dL_law_1416 : decode cL_law 1416 = .ok (.invokevirtual 241, 3) := by decide +kernel
theorem dL_law_1419 : decode cL_law 1419 = .ok (.ifCond .ne 5, 3) := by decide +kernel
theorem dL_law_1422 : decode cL_law 1422 = .ok (.iconst 0, 1) := by decide +kernel
theorem dL_law_1423 : decode cL_law 1423 = .ok (.ireturn, 1) := by decide +kernel
theorem dL_law_1424 : decode cL_law 1424 = .ok (.iinc 5 1, 3) := by decide +kernel
theorem dL_law_1427 : decode cL_law 1427 = .ok (.goto (-1409), 3) := by decide +kernel
theorem dL_law_1430 : decode cL_law 1430 = .ok (.aload_n 1, 1) := by decide +kernel
theorem dL_law_1431 : decode cL_law 1431 = .ok (.iconst 5, 1) := by decide +kernel
theorem dL_law_1432 : decode cL_law 1432 = .ok (.iload_n 2, 1) := by decide +kernel
theorem dL_law_1433 : decode cL_law 1433 = .ok (.iconst 0, 1) := by decide +kernel
theorem dL_law_1434 : decode cL_law 1434 = .ok (.iconst 0, 1) := by decide +kernel
theorem dL_law_1435 : decode cL_law 1435 = .ok (.invokestatic 188, 3) := by decide +kernel
theorem dL_law_1438 : decode cL_law 1438 = .ok (.ldc2_w 149, 3) := by decide +kernel
theorem dL_law_1441 : decode cL_law 1441 = .ok (.lcmp, 1) := by decide +kernel
theorem dL_law_1442 : decode cL_law 1442 = .ok (.ifCond .ne 24, 3) := by decide +kernel
theorem dL_law_1445 : decode cL_law 1445 = .ok (.aload_n 1, 1) := by decide +kernel
theorem dL_law_1446 : decode cL_law 1446 = .ok (.bipush 25, 2) := by decide +kernel
theorem dL_law_1448 : decode cL_law 1448 = .ok (.iload 4, 2) := by decide +kernel
theorem dL_law_1450 : decode cL_law 1450 = .ok (.iconst 0, 1) := by decide +kernel
theorem dL_law_1451 : decode cL_law 1451 = .ok (.iconst 0, 1) := by decide +kernel
theorem dL_law_1452 : decode cL_law 1452 = .ok (.invokestatic 188, 3) := by decide +kernel
theorem dL_law_1455 : decode cL_law 1455 = .ok (.ldc2_w 149, 3) := by decide +kernel
theorem dL_law_1458 : decode cL_law 1458 = .ok (.lcmp, 1) := by decide +kernel
theorem dL_law_1459 : decode cL_law 1459 = .ok (.ifCond .ne 7, 3) := by decide +kernel
theorem dL_law_1462 : decode cL_law 1462 = .ok (.iconst 1, 1) := by decide +kernel
theorem dL_law_1463 : decode cL_law 1463 = .ok (.goto 4, 3) := by decide +kernel
theorem dL_law_1466 : decode cL_law 1466 = .ok (.iconst 0, 1) := by decide +kernel
theorem dL_law_1467 : decode cL_law 1467 = .ok (.ireturn, 1) := by decide +kernel
theorem dL_low_0 : decode cL_low 0 = .ok (.iload_n 0, 1) := by decide +kernel
theorem dL_low_1 : decode cL_low 1 = .ok (.ldc 8, 2) := by decide +kernel
theorem dL_low_3 : decode cL_low 3 = .ok (.iand, 1) := by decide +kernel
theorem dL_low_4 : decode cL_low 4 = .ok (.iload_n 1, 1) := by decide +kernel
theorem dL_low_5 : decode cL_low 5 = .ok (.irem, 1) := by decide +kernel
theorem dL_low_6 : decode cL_low 6 = .ok (.ireturn, 1) := by decide +kernel
theorem dL_state_0 : decode cL_state 0 = .ok (.ldc2_w 191, 3) := by decide +kernel
theorem dL_state_3 : decode cL_state 3 = .ok (.aload_n 0, 1) := by decide +kernel
theorem dL_state_4 : decode cL_state 4 = .ok (.invokevirtual 193, 3) := by decide +kernel
theorem dL_state_7 : decode cL_state 7 = .ok (.ladd, 1) := by decide +kernel
theorem dL_state_8 : decode cL_state 8 = .ok (.lstore_n 3, 1) := by decide +kernel
theorem dL_state_9 : decode cL_state 9 = .ok (.iconst 0, 1) := by decide +kernel
theorem dL_state_10 : decode cL_state 10 = .ok (.istore 5, 2) := by decide +kernel
theorem dL_state_12 : decode cL_state 12 = .ok (.iload 5, 2) := by decide +kernel
theorem dL_state_14 : decode cL_state 14 = .ok (.iload_n 1, 1) := by decide +kernel
theorem dL_state_15 : decode cL_state 15 = .ok (.if_icmp .ge 41, 3) := by decide +kernel
theorem dL_state_18 : decode cL_state 18 = .ok (.ldc2_w 197, 3) := by decide +kernel
theorem dL_state_21 : decode cL_state 21 = .ok (.ldc2_w 197, 3) := by decide +kernel
theorem dL_state_24 : decode cL_state 24 = .ok (.lload_n 3, 1) := by decide +kernel
theorem dL_state_25 : decode cL_state 25 = .ok (.lmul, 1) := by decide +kernel
theorem dL_state_26 : decode cL_state 26 = .ok (.aload_n 0, 1) := by decide +kernel
theorem dL_state_27 : decode cL_state 27 = .ok (.bipush 6, 2) := by decide +kernel
theorem dL_state_29 : decode cL_state 29 = .ok (.iload 5, 2) := by decide +kernel
theorem dL_state_31 : decode cL_state 31 = .ok (.iconst 4, 1) := by decide +kernel
theorem dL_state_32 : decode cL_state 32 = .ok (.iconst 0, 1) := by decide +kernel
theorem dL_state_33 : decode cL_state 33 = .ok (.invokestatic 188, 3) := by decide +kernel
theorem dL_state_36 : decode cL_state 36 = .ok (.ladd, 1) := by decide +kernel
theorem dL_state_37 : decode cL_state 37 = .ok (.lmul, 1) := by decide +kernel
theorem dL_state_38 : decode cL_state 38 = .ok (.aload_n 0, 1) := by decide +kernel
theorem dL_state_39 : decode cL_state 39 = .ok (.bipush 9, 2) := by decide +kernel
theorem dL_state_41 : decode cL_state 41 = .ok (.iload 5, 2) := by decide +kernel
theorem dL_state_43 : decode cL_state 43 = .ok (.iconst 0, 1) := by decide +kernel
theorem dL_state_44 : decode cL_state 44 = .ok (.iconst 0, 1) := by decide +kernel
theorem dL_state_45 : decode cL_state 45 = .ok (.invokestatic 188, 3) := by decide +kernel
theorem dL_state_48 : decode cL_state 48 = .ok (.ladd, 1) := by decide +kernel
theorem dL_state_49 : decode cL_state 49 = .ok (.lstore_n 3, 1) := by decide +kernel
theorem dL_state_50 : decode cL_state 50 = .ok (.iinc 5 1, 3) := by decide +kernel
theorem dL_state_53 : decode cL_state 53 = .ok (.goto (-41), 3) := by decide +kernel
theorem dL_state_56 : decode cL_state 56 = .ok (.iconst 0, 1) := by decide +kernel
theorem dL_state_57 : decode cL_state 57 = .ok (.istore 5, 2) := by decide +kernel
theorem dL_state_59 : decode cL_state 59 = .ok (.iload 5, 2) := by decide +kernel
theorem dL_state_61 : decode cL_state 61 = .ok (.iload_n 2, 1) := by decide +kernel
theorem dL_state_62 : decode cL_state 62 = .ok (.if_icmp .ge 41, 3) := by decide +kernel
theorem dL_state_65 : decode cL_state 65 = .ok (.ldc2_w 197, 3) := by decide +kernel
theorem dL_state_68 : decode cL_state 68 = .ok (.ldc2_w 197, 3) := by decide +kernel
theorem dL_state_71 : decode cL_state 71 = .ok (.lload_n 3, 1) := by decide +kernel
theorem dL_state_72 : decode cL_state 72 = .ok (.lmul, 1) := by decide +kernel
theorem dL_state_73 : decode cL_state 73 = .ok (.aload_n 0, 1) := by decide +kernel
theorem dL_state_74 : decode cL_state 74 = .ok (.bipush 25, 2) := by decide +kernel
theorem dL_state_76 : decode cL_state 76 = .ok (.iload 5, 2) := by decide +kernel
theorem dL_state_78 : decode cL_state 78 = .ok (.iconst 0, 1) := by decide +kernel
theorem dL_state_79 : decode cL_state 79 = .ok (.iconst 0, 1) := by decide +kernel
theorem dL_state_80 : decode cL_state 80 = .ok (.invokestatic 188, 3) := by decide +kernel
theorem dL_state_83 : decode cL_state 83 = .ok (.ladd, 1) := by decide +kernel
theorem dL_state_84 : decode cL_state 84 = .ok (.lmul, 1) := by decide +kernel
theorem dL_state_85 : decode cL_state 85 = .ok (.aload_n 0, 1) := by decide +kernel
theorem dL_state_86 : decode cL_state 86 = .ok (.bipush 30, 2) := by decide +kernel
theorem dL_state_88 : decode cL_state 88 = .ok (.iload 5, 2) := by decide +kernel
theorem dL_state_90 : decode cL_state 90 = .ok (.iconst 2, 1) := by decide +kernel
theorem dL_state_91 : decode cL_state 91 = .ok (.iconst 0, 1) := by decide +kernel
theorem dL_state_92 : decode cL_state 92 = .ok (.invokestatic 188, 3) := by decide +kernel
theorem dL_state_95 : decode cL_state 95 = .ok (.ladd, 1) := by decide +kernel
theorem dL_state_96 : decode cL_state 96 = .ok (.lstore_n 3, 1) := by decide +kernel
theorem dL_state_97 : decode cL_state 97 = .ok (.iinc 5 1, 3) := by decide +kernel
theorem dL_state_100 : decode cL_state 100 = .ok (.goto (-41), 3) := by decide +kernel
theorem dL_state_103 : decode cL_state 103 = .ok (.iconst 0, 1) := by decide +kernel
theorem dL_state_104 : decode cL_state 104 = .ok (.istore 5, 2) := by decide +kernel
theorem dL_state_106 : decode cL_state 106 = .ok (.iload 5, 2) := by decide +kernel
theorem dL_state_108 : decode cL_state 108 = .ok (.bipush 40, 2) := by decide +kernel
theorem dL_state_110 : decode cL_state 110 = .ok (.if_icmp .ge 26, 3) := by decide +kernel
theorem dL_state_113 : decode cL_state 113 = .ok (.ldc2_w 197, 3) := by decide +kernel
theorem dL_state_116 : decode cL_state 116 = .ok (.lload_n 3, 1) := by decide +kernel
theorem dL_state_117 : decode cL_state 117 = .ok (.lmul, 1) := by decide +kernel
theorem dL_state_118 : decode cL_state 118 = .ok (.aload_n 0, 1) := by decide +kernel
theorem dL_state_119 : decode cL_state 119 = .ok (.bipush 20, 2) := by decide +kernel
theorem dL_state_121 : decode cL_state 121 = .ok (.iload 5, 2) := by decide +kernel
theorem dL_state_123 : decode cL_state 123 = .ok (.iconst 0, 1) := by decide +kernel
theorem dL_state_124 : decode cL_state 124 = .ok (.iconst 0, 1) := by decide +kernel
theorem dL_state_125 : decode cL_state 125 = .ok (.invokestatic 188, 3) := by decide +kernel
theorem dL_state_128 : decode cL_state 128 = .ok (.ladd, 1) := by decide +kernel
theorem dL_state_129 : decode cL_state 129 = .ok (.lstore_n 3, 1) := by decide +kernel
theorem dL_state_130 : decode cL_state 130 = .ok (.iinc 5 1, 3) := by decide +kernel
theorem dL_state_133 : decode cL_state 133 = .ok (.goto (-27), 3) := by decide +kernel
theorem dL_state_136 : decode cL_state 136 = .ok (.ldc2_w 197, 3) := by decide +kernel
theorem dL_state_139 : decode cL_state 139 = .ok (.lload_n 3, 1) := by decide +kernel
theorem dL_state_140 : decode cL_state 140 = .ok (.lmul, 1) := by decide +kernel
theorem dL_state_141 : decode cL_state 141 = .ok (.aload_n 0, 1) := by decide +kernel
theorem dL_state_142 : decode cL_state 142 = .ok (.bipush 39, 2) := by decide +kernel
theorem dL_state_144 : decode cL_state 144 = .ok (.iconst 3, 1) := by decide +kernel
theorem dL_state_145 : decode cL_state 145 = .ok (.iconst 0, 1) := by decide +kernel
theorem dL_state_146 : decode cL_state 146 = .ok (.iconst 0, 1) := by decide +kernel
theorem dL_state_147 : decode cL_state 147 = .ok (.invokestatic 188, 3) := by decide +kernel
theorem dL_state_150 : decode cL_state 150 = .ok (.ladd, 1) := by decide +kernel
theorem dL_state_151 : decode cL_state 151 = .ok (.lreturn, 1) := by decide +kernel
theorem dL_types_0 : decode cL_types 0 = .ok (.aload_n 0, 1) := by decide +kernel
theorem dL_types_1 : decode cL_types 1 = .ok (.invokevirtual 177, 3) := by decide +kernel
theorem dL_types_4 : decode cL_types 4 = .ok (.istore_n 2, 1) := by decide +kernel
theorem dL_types_5 : decode cL_types 5 = .ok (.iload_n 2, 1) := by decide +kernel
theorem dL_types_6 : decode cL_types 6 = .ok (.ifCond .lt 7, 3) := by decide +kernel
theorem dL_types_9 : decode cL_types 9 = .ok (.iconst 1, 1) := by decide +kernel
theorem dL_types_10 : decode cL_types 10 = .ok (.goto 4, 3) := by decide +kernel
theorem dL_types_13 : decode cL_types 13 = .ok (.iconst 0, 1) := by decide +kernel
theorem dL_types_14 : decode cL_types 14 = .ok (.istore_n 3, 1) := by decide +kernel
theorem dL_types_15 : decode cL_types 15 = .ok (.iconst 0, 1) := by decide +kernel
theorem dL_types_16 : decode cL_types 16 = .ok (.istore 4, 2) := by decide +kernel
theorem dL_types_18 : decode cL_types 18 = .ok (.iload 4, 2) := by decide +kernel
theorem dL_types_20 : decode cL_types 20 = .ok (.aload_n 1, 1) := by decide +kernel
theorem dL_types_21 : decode cL_types 21 = .ok (.invokevirtual 180, 3) := by decide +kernel
theorem dL_types_24 : decode cL_types 24 = .ok (.if_icmp .ge 41, 3) := by decide +kernel
theorem dL_types_27 : decode cL_types 27 = .ok (.iload_n 3, 1) := by decide +kernel
theorem dL_types_28 : decode cL_types 28 = .ok (.ifCond .eq 29, 3) := by decide +kernel
theorem dL_types_31 : decode cL_types 31 = .ok (.aload_n 0, 1) := by decide +kernel
theorem dL_types_32 : decode cL_types 32 = .ok (.iconst 0, 1) := by decide +kernel
theorem dL_types_33 : decode cL_types 33 = .ok (.aload_n 1, 1) := by decide +kernel
theorem dL_types_34 : decode cL_types 34 = .ok (.iload 4, 2) := by decide +kernel
theorem dL_types_36 : decode cL_types 36 = .ok (.invokevirtual 185, 3) := by decide +kernel
theorem dL_types_39 : decode cL_types 39 = .ok (.iconst 0, 1) := by decide +kernel
theorem dL_types_40 : decode cL_types 40 = .ok (.iconst 0, 1) := by decide +kernel
theorem dL_types_41 : decode cL_types 41 = .ok (.invokestatic 188, 3) := by decide +kernel
theorem dL_types_44 : decode cL_types 44 = .ok (.iload 4, 2) := by decide +kernel
theorem dL_types_46 : decode cL_types 46 = .ok (.iconst 1, 1) := by decide +kernel
theorem dL_types_47 : decode cL_types 47 = .ok (.iadd, 1) := by decide +kernel
theorem dL_types_48 : decode cL_types 48 = .ok (.i2l, 1) := by decide +kernel
theorem dL_types_49 : decode cL_types 49 = .ok (.lcmp, 1) := by decide +kernel
theorem dL_types_50 : decode cL_types 50 = .ok (.ifCond .ne 7, 3) := by decide +kernel
theorem dL_types_53 : decode cL_types 53 = .ok (.iconst 1, 1) := by decide +kernel
theorem dL_types_54 : decode cL_types 54 = .ok (.goto 4, 3) := by decide +kernel
theorem dL_types_57 : decode cL_types 57 = .ok (.iconst 0, 1) := by decide +kernel
theorem dL_types_58 : decode cL_types 58 = .ok (.istore_n 3, 1) := by decide +kernel
theorem dL_types_59 : decode cL_types 59 = .ok (.iinc 4 1, 3) := by decide +kernel
theorem dL_types_62 : decode cL_types 62 = .ok (.goto (-44), 3) := by decide +kernel
theorem dL_types_65 : decode cL_types 65 = .ok (.iload_n 3, 1) := by decide +kernel
theorem dL_types_66 : decode cL_types 66 = .ok (.ireturn, 1) := by decide +kernel
theorem dX0_coefficientOf_0 : decode cX0_coefficientOf 0 = .ok (.aload_n 0, 1) := by decide +kernel
theorem dX0_coefficientOf_1 : decode cX0_coefficientOf 1 = .ok (.getfield 12, 3) := by decide +kernel
theorem dX0_coefficientOf_4 : decode cX0_coefficientOf 4 = .ok (.astore_n 3, 1) := by decide +kernel
theorem dX0_coefficientOf_5 : decode cX0_coefficientOf 5 = .ok (.aload_n 0, 1) := by decide +kernel
theorem dX0_coefficientOf_6 : decode cX0_coefficientOf 6 = .ok (.getfield 18, 3) := by decide +kernel
theorem dX0_coefficientOf_9 : decode cX0_coefficientOf 9 = .ok (.astore 4, 2) := by decide +kernel
theorem dX0_coefficientOf_11 : decode cX0_coefficientOf 11 = .ok (.aload_n 3, 1) := by decide +kernel
theorem dX0_coefficientOf_12 : decode cX0_coefficientOf 12 = .ok (.aload_n 1, 1) := by decide +kernel
theorem dX0_coefficientOf_13 : decode cX0_coefficientOf 13 = .ok (.getfield 93, 3) := by decide +kernel
theorem dX0_coefficientOf_16 : decode cX0_coefficientOf 16 = .ok (.aload_n 1, 1) := by decide +kernel
theorem dX0_coefficientOf_17 : decode cX0_coefficientOf 17 = .ok (.getfield 93, 3) := by decide +kernel
theorem dX0_coefficientOf_20 : decode cX0_coefficientOf 20 = .ok (.invokevirtual 66, 3) := by decide +kernel
theorem dX0_coefficientOf_23 : decode cX0_coefficientOf 23 = .ok (.aload_n 0, 1) := by decide +kernel
theorem dX0_coefficientOf_24 : decode cX0_coefficientOf 24 = .ok (.getfield 24, 3) := by decide +kernel
theorem dX0_coefficientOf_27 : decode cX0_coefficientOf 27 = .ok (.lconst 0, 1) := by decide +kernel
theorem dX0_coefficientOf_28 : decode cX0_coefficientOf 28 = .ok (.invokestatic 96, 3) := by decide +kernel
theorem dX0_coefficientOf_31 : decode cX0_coefficientOf 31 = .ok (.lconst 1, 1) := by decide +kernel
theorem dX0_coefficientOf_32 : decode cX0_coefficientOf 32 = .ok (.lstore 5, 2) := by decide +kernel
theorem dX0_coefficientOf_34 : decode cX0_coefficientOf 34 = .ok (.aload_n 0, 1) := by decide +kernel
theorem dX0_coefficientOf_35 : decode cX0_coefficientOf 35 = .ok (.iconst 0, 1) := by decide +kernel
theorem dX0_coefficientOf_36 : decode cX0_coefficientOf 36 = .ok (.lload 5, 2) := by decide +kernel
theorem dX0_coefficientOf_38 : decode cX0_coefficientOf 38 = .ok (.invokevirtual 102, 3) := by decide +kernel
theorem dX0_coefficientOf_41 : decode cX0_coefficientOf 41 = .ok (.iconst 1, 1) := by decide +kernel
theorem dX0_coefficientOf_42 : decode cX0_coefficientOf 42 = .ok (.istore 7, 2) := by decide +kernel
theorem dX0_coefficientOf_44 : decode cX0_coefficientOf 44 = .ok (.iload 7, 2) := by decide +kernel
theorem dX0_coefficientOf_46 : decode cX0_coefficientOf 46 = .ok (.aload_n 1, 1) := by decide +kernel
theorem dX0_coefficientOf_47 : decode cX0_coefficientOf 47 = .ok (.getfield 93, 3) := by decide +kernel
theorem dX0_coefficientOf_50 : decode cX0_coefficientOf 50 = .ok (.if_icmp .gt 83, 3) := by decide +kernel
theorem dX0_coefficientOf_53 : decode cX0_coefficientOf 53 = .ok (.iconst 0, 1) := by decide +kernel
theorem dX0_coefficientOf_54 : decode cX0_coefficientOf 54 = .ok (.istore 8, 2) := by decide +kernel
theorem dX0_coefficientOf_56 : decode cX0_coefficientOf 56 = .ok (.iload 8, 2) := by decide +kernel
theorem dX0_coefficientOf_58 : decode cX0_coefficientOf 58 = .ok (.aload_n 1, 1) := by decide +kernel
theorem dX0_coefficientOf_59 : decode cX0_coefficientOf 59 = .ok (.getfield 93, 3) := by decide +kernel
theorem dX0_coefficientOf_62 : decode cX0_coefficientOf 62 = .ok (.if_icmp .ge 28, 3) := by decide +kernel
theorem dX0_coefficientOf_65 : decode cX0_coefficientOf 65 = .ok (.aload_n 3, 1) := by decide +kernel
theorem dX0_coefficientOf_66 : decode cX0_coefficientOf 66 = .ok (.iload 8, 2) := by decide +kernel
theorem dX0_coefficientOf_68 : decode cX0_coefficientOf 68 = .ok (.iload 8, 2) := by decide +kernel
theorem dX0_coefficientOf_70 : decode cX0_coefficientOf 70 = .ok (.aload_n 3, 1) := by decide +kernel
theorem dX0_coefficientOf_71 : decode cX0_coefficientOf 71 = .ok (.iload 8, 2) := by decide +kernel
theorem dX0_coefficientOf_73 : decode cX0_coefficientOf 73 = .ok (.iload 8, 2) := by decide +kernel
theorem dX0_coefficientOf_75 : decode cX0_coefficientOf 75 = .ok (.invokevirtual 106, 3) := by decide +kernel
theorem dX0_coefficientOf_78 : decode cX0_coefficientOf 78 = .ok (.lload 5, 2) := by decide +kernel
theorem dX0_coefficientOf_80 : decode cX0_coefficientOf 80 = .ok (.ladd, 1) := by decide +kernel
theorem dX0_coefficientOf_81 : decode cX0_coefficientOf 81 = .ok (.invokevirtual 89, 3) := by decide +kernel
theorem dX0_coefficientOf_84 : decode cX0_coefficientOf 84 = .ok (.iinc 8 1, 3) := by decide +kernel
theorem dX0_coefficientOf_87 : decode cX0_coefficientOf 87 = .ok (.goto (-31), 3) := by decide +kernel
theorem dX0_coefficientOf_90 : decode cX0_coefficientOf 90 = .ok (.aload 4, 2) := by decide +kernel
theorem dX0_coefficientOf_92 : decode cX0_coefficientOf 92 = .ok (.aload_n 1, 1) := by decide +kernel
theorem dX0_coefficientOf_93 : decode cX0_coefficientOf 93 = .ok (.aload_n 3, 1) := by decide +kernel
theorem dX0_coefficientOf_94 : decode cX0_coefficientOf 94 = .ok (.invokevirtual 110, 3) := by decide +kernel
theorem dX0_coefficientOf_97 : decode cX0_coefficientOf 97 = .ok (.aload 4, 2) := by decide +kernel
theorem dX0_coefficientOf_99 : decode cX0_coefficientOf 99 = .ok (.invokevirtual 114, 3) := by decide +kernel
theorem dX0_coefficientOf_102 : decode cX0_coefficientOf 102 = .ok (.lneg, 1) := by decide +kernel
theorem dX0_coefficientOf_103 : decode cX0_coefficientOf 103 = .ok (.iload 7, 2) := by decide +kernel
theorem dX0_coefficientOf_105 : decode cX0_coefficientOf 105 = .ok (.i2l, 1) := by decide +kernel
theorem dX0_coefficientOf_106 : decode cX0_coefficientOf 106 = .ok (.ldiv, 1) := by decide +kernel
theorem dX0_coefficientOf_107 : decode cX0_coefficientOf 107 = .ok (.lstore 5, 2) := by decide +kernel
theorem dX0_coefficientOf_109 : decode cX0_coefficientOf 109 = .ok (.aload_n 0, 1) := by decide +kernel
theorem dX0_coefficientOf_110 : decode cX0_coefficientOf 110 = .ok (.iload 7, 2) := by decide +kernel
theorem dX0_coefficientOf_112 : decode cX0_coefficientOf 112 = .ok (.lload 5, 2) := by decide +kernel
theorem dX0_coefficientOf_114 : decode cX0_coefficientOf 114 = .ok (.invokevirtual 102, 3) := by decide +kernel
theorem dX0_coefficientOf_117 : decode cX0_coefficientOf 117 = .ok (.aload_n 3, 1) := by decide +kernel
theorem dX0_coefficientOf_118 : decode cX0_coefficientOf 118 = .ok (.astore 8, 2) := by decide +kernel
theorem dX0_coefficientOf_120 : decode cX0_coefficientOf 120 = .ok (.aload 4, 2) := by decide +kernel
theorem dX0_coefficientOf_122 : decode cX0_coefficientOf 122 = .ok (.astore_n 3, 1) := by decide +kernel
theorem dX0_coefficientOf_123 : decode cX0_coefficientOf 123 = .ok (.aload 8, 2) := by decide +kernel
theorem dX0_coefficientOf_125 : decode cX0_coefficientOf 125 = .ok (.astore 4, 2) := by decide +kernel
theorem dX0_coefficientOf_127 : decode cX0_coefficientOf 127 = .ok (.iinc 7 1, 3) := by decide +kernel
theorem dX0_coefficientOf_130 : decode cX0_coefficientOf 130 = .ok (.goto (-86), 3) := by decide +kernel
theorem dX0_coefficientOf_133 : decode cX0_coefficientOf 133 = .ok (.iload_n 2, 1) := by decide +kernel
theorem dX0_coefficientOf_134 : decode cX0_coefficientOf 134 = .ok (.ifCond .lt 21, 3) := by decide +kernel
theorem dX0_coefficientOf_137 : decode cX0_coefficientOf 137 = .ok (.iload_n 2, 1) := by decide +kernel
theorem dX0_coefficientOf_138 : decode cX0_coefficientOf 138 = .ok (.aload_n 0, 1) := by decide +kernel
theorem dX0_coefficientOf_139 : decode cX0_coefficientOf 139 = .ok (.getfield 24, 3) := by decide +kernel
theorem dX0_coefficientOf_142 : decode cX0_coefficientOf 142 = .ok (.arraylength, 1) := by decide +kernel
theorem dX0_coefficientOf_143 : decode cX0_coefficientOf 143 = .ok (.if_icmp .ge 12, 3) := by decide +kernel
theorem dX0_coefficientOf_146 : decode cX0_coefficientOf 146 = .ok (.aload_n 0, 1) := by decide +kernel
theorem dX0_coefficientOf_147 : decode cX0_coefficientOf 147 = .ok (.getfield 24, 3) := by decide +kernel
theorem dX0_coefficientOf_150 : decode cX0_coefficientOf 150 = .ok (.iload_n 2, 1) := by decide +kernel
theorem dX0_coefficientOf_151 : decode cX0_coefficientOf 151 = .ok (.laload, 1) := by decide +kernel
theorem dX0_coefficientOf_152 : decode cX0_coefficientOf 152 = .ok (.goto 4, 3) := by decide +kernel
theorem dX0_coefficientOf_155 : decode cX0_coefficientOf 155 = .ok (.lconst 0, 1) := by decide +kernel
theorem dX0_coefficientOf_156 : decode cX0_coefficientOf 156 = .ok (.lreturn, 1) := by decide +kernel
theorem dX0_countBetween_0 : decode cX0_countBetween 0 = .ok (.aload_n 1, 1) := by decide +kernel
theorem dX0_countBetween_1 : decode cX0_countBetween 1 = .ok (.invokevirtual 54, 3) := by decide +kernel
theorem dX0_countBetween_4 : decode cX0_countBetween 4 = .ok (.istore_n 2, 1) := by decide +kernel
theorem dX0_countBetween_5 : decode cX0_countBetween 5 = .ok (.iload_n 2, 1) := by decide +kernel
theorem dX0_countBetween_6 : decode cX0_countBetween 6 = .ok (.invokestatic 60, 3) := by decide +kernel
theorem dX0_countBetween_9 : decode cX0_countBetween 9 = .ok (.istore_n 3, 1) := by decide +kernel
theorem dX0_countBetween_10 : decode cX0_countBetween 10 = .ok (.aload_n 0, 1) := by decide +kernel
theorem dX0_countBetween_11 : decode cX0_countBetween 11 = .ok (.getfield 21, 3) := by decide +kernel
theorem dX0_countBetween_14 : decode cX0_countBetween 14 = .ok (.iload_n 3, 1) := by decide +kernel
theorem dX0_countBetween_15 : decode cX0_countBetween 15 = .ok (.iload_n 3, 1) := by decide +kernel
theorem dX0_countBetween_16 : decode cX0_countBetween 16 = .ok (.invokevirtual 66, 3) := by decide +kernel
theorem dX0_countBetween_19 : decode cX0_countBetween 19 = .ok (.iconst 0, 1) := by decide +kernel
theorem dX0_countBetween_20 : decode cX0_countBetween 20 = .ok (.istore 4, 2) := by decide +kernel
theorem dX0_countBetween_22 : decode cX0_countBetween 22 = .ok (.iconst 0, 1) := by decide +kernel
theorem dX0_countBetween_23 : decode cX0_countBetween 23 = .ok (.istore 5, 2) := by decide +kernel
theorem dX0_countBetween_25 : decode cX0_countBetween 25 = .ok (.iload 5, 2) := by decide +kernel
theorem dX0_countBetween_27 : decode cX0_countBetween 27 = .ok (.aload_n 1, 1) := by decide +kernel
theorem dX0_countBetween_28 : decode cX0_countBetween 28 = .ok (.getfield 70, 3) := by decide +kernel
theorem dX0_countBetween_31 : decode cX0_countBetween 31 = .ok (.if_icmp .ge 31, 3) := by decide +kernel
theorem dX0_countBetween_34 : decode cX0_countBetween 34 = .ok (.iload_n 2, 1) := by decide +kernel
theorem dX0_countBetween_35 : decode cX0_countBetween 35 = .ok (.iload 5, 2) := by decide +kernel
theorem dX0_countBetween_37 : decode cX0_countBetween 37 = .ok (.invokestatic 74, 3) := by decide +kernel
theorem dX0_countBetween_40 : decode cX0_countBetween 40 = .ok (.ifCond .eq 16, 3) := by decide +kernel
theorem dX0_countBetween_43 : decode cX0_countBetween 43 = .ok (.aload_n 0, 1) := by decide +kernel
theorem dX0_countBetween_44 : decode cX0_countBetween 44 = .ok (.aload_n 1, 1) := by decide +kernel
theorem dX0_countBetween_45 : decode cX0_countBetween 45 = .ok (.iload_n 2, 1) := by decide +kernel
theorem dX0_countBetween_46 : decode cX0_countBetween 46 = .ok (.iload 5, 2) := by decide +kernel
theorem dX0_countBetween_48 : decode cX0_countBetween 48 = .ok (.iload 4, 2) := by decide +kernel
theorem dX0_countBetween_50 : decode cX0_countBetween 50 = .ok (.invokevirtual 78, 3) := by decide +kernel
theorem dX0_countBetween_53 : decode cX0_countBetween 53 = .ok (.iinc 4 1, 3) := by decide +kernel
theorem dX0_countBetween_56 : decode cX0_countBetween 56 = .ok (.iinc 5 1, 3) := by decide +kernel
theorem dX0_countBetween_59 : decode cX0_countBetween 59 = .ok (.goto (-34), 3) := by decide +kernel
theorem dX0_countBetween_62 : decode cX0_countBetween 62 = .ok (.return_, 1) := by decide +kernel
theorem dX0_countRow_0 : decode cX0_countRow 0 = .ok (.iconst 0, 1) := by decide +kernel
theorem dX0_countRow_1 : decode cX0_countRow 1 = .ok (.istore 5, 2) := by decide +kernel
theorem dX0_countRow_3 : decode cX0_countRow 3 = .ok (.iconst 0, 1) := by decide +kernel
theorem dX0_countRow_4 : decode cX0_countRow 4 = .ok (.istore 6, 2) := by decide +kernel
theorem dX0_countRow_6 : decode cX0_countRow 6 = .ok (.iload 6, 2) := by decide +kernel
theorem dX0_countRow_8 : decode cX0_countRow 8 = .ok (.aload_n 1, 1) := by decide +kernel
theorem dX0_countRow_9 : decode cX0_countRow 9 = .ok (.getfield 70, 3) := by decide +kernel
theorem dX0_countRow_12 : decode cX0_countRow 12 = .ok (.if_icmp .ge 73, 3) := by decide +kernel
theorem dX0_countRow_15 : decode cX0_countRow 15 = .ok (.iload_n 2, 1) := by decide +kernel
theorem dX0_countRow_16 : decode cX0_countRow 16 = .ok (.iload 6, 2) := by decide +kernel
theorem dX0_countRow_18 : decode cX0_countRow 18 = .ok (.invokestatic 74, 3) := by decide +kernel
theorem dX0_countRow_21 : decode cX0_countRow 21 = .ok (.ifCond .eq 58, 3) := by decide +kernel
theorem dX0_countRow_24 : decode cX0_countRow 24 = .ok (.iconst 0, 1) := by decide +kernel
theorem dX0_countRow_25 : decode cX0_countRow 25 = .ok (.istore 7, 2) := by decide +kernel
theorem dX0_countRow_27 : decode cX0_countRow 27 = .ok (.iconst 0, 1) := by decide +kernel
theorem dX0_countRow_28 : decode cX0_countRow 28 = .ok (.istore 8, 2) := by decide +kernel
theorem dX0_countRow_30 : decode cX0_countRow 30 = .ok (.iload 8, 2) := by decide +kernel
theorem dX0_countRow_32 : decode cX0_countRow 32 = .ok (.aload_n 1, 1) := by decide +kernel
theorem dX0_countRow_33 : decode cX0_countRow 33 = .ok (.getfield 82, 3) := by decide +kernel
theorem dX0_countRow_36 : decode cX0_countRow 36 = .ok (.if_icmp .ge 26, 3) := by decide +kernel
theorem dX0_countRow_39 : decode cX0_countRow 39 = .ok (.iload 7, 2) := by decide +kernel
theorem dX0_countRow_41 : decode cX0_countRow 41 = .ok (.aload_n 1, 1) := by decide +kernel
theorem dX0_countRow_42 : decode cX0_countRow 42 = .ok (.iload_n 3, 1) := by decide +kernel
theorem dX0_countRow_43 : decode cX0_countRow 43 = .ok (.iload 8, 2) := by decide +kernel
theorem dX0_countRow_45 : decode cX0_countRow 45 = .ok (.invokevirtual 85, 3) := by decide +kernel
theorem dX0_countRow_48 : decode cX0_countRow 48 = .ok (.iload 6, 2) := by decide +kernel
theorem dX0_countRow_50 : decode cX0_countRow 50 = .ok (.ishr, 1) := by decide +kernel
theorem dX0_countRow_51 : decode cX0_countRow 51 = .ok (.iconst 1, 1) := by decide +kernel
theorem dX0_countRow_52 : decode cX0_countRow 52 = .ok (.iand, 1) := by decide +kernel
theorem dX0_countRow_53 : decode cX0_countRow 53 = .ok (.iadd, 1) := by decide +kernel
theorem dX0_countRow_54 : decode cX0_countRow 54 = .ok (.istore 7, 2) := by decide +kernel
theorem dX0_countRow_56 : decode cX0_countRow 56 = .ok (.iinc 8 1, 3) := by decide +kernel
theorem dX0_countRow_59 : decode cX0_countRow 59 = .ok (.goto (-29), 3) := by decide +kernel
theorem dX0_countRow_62 : decode cX0_countRow 62 = .ok (.aload_n 0, 1) := by decide +kernel
theorem dX0_countRow_63 : decode cX0_countRow 63 = .ok (.getfield 21, 3) := by decide +kernel
theorem dX0_countRow_66 : decode cX0_countRow 66 = .ok (.iload 4, 2) := by decide +kernel
theorem dX0_countRow_68 : decode cX0_countRow 68 = .ok (.iload 5, 2) := by decide +kernel
theorem dX0_countRow_70 : decode cX0_countRow 70 = .ok (.iload 7, 2) := by decide +kernel
theorem dX0_countRow_72 : decode cX0_countRow 72 = .ok (.i2l, 1) := by decide +kernel
theorem dX0_countRow_73 : decode cX0_countRow 73 = .ok (.invokevirtual 89, 3) := by decide +kernel
theorem dX0_countRow_76 : decode cX0_countRow 76 = .ok (.iinc 5 1, 3) := by decide +kernel
theorem dX0_countRow_79 : decode cX0_countRow 79 = .ok (.iinc 6 1, 3) := by decide +kernel
theorem dX0_countRow_82 : decode cX0_countRow 82 = .ok (.goto (-76), 3) := by decide +kernel
theorem dX0_countRow_85 : decode cX0_countRow 85 = .ok (.return_, 1) := by decide +kernel
theorem dX0_findBound_0 : decode cX0_findBound 0 = .ok (.aload_n 1, 1) := by decide +kernel
theorem dX0_findBound_1 : decode cX0_findBound 1 = .ok (.invokevirtual 54, 3) := by decide +kernel
theorem dX0_findBound_4 : decode cX0_findBound 4 = .ok (.istore 4, 2) := by decide +kernel
theorem dX0_findBound_6 : decode cX0_findBound 6 = .ok (.aload_n 0, 1) := by decide +kernel
theorem dX0_findBound_7 : decode cX0_findBound 7 = .ok (.getfield 34, 3) := by decide +kernel
theorem dX0_findBound_10 : decode cX0_findBound 10 = .ok (.lconst 1, 1) := by decide +kernel
theorem dX0_findBound_11 : decode cX0_findBound 11 = .ok (.invokestatic 96, 3) := by decide +kernel
theorem dX0_findBound_14 : decode cX0_findBound 14 = .ok (.iconst 0, 1) := by decide +kernel
theorem dX0_findBound_15 : decode cX0_findBound 15 = .ok (.istore 5, 2) := by decide +kernel
theorem dX0_findBound_17 : decode cX0_findBound 17 = .ok (.iload 5, 2) := by decide +kernel
theorem dX0_findBound_19 : decode cX0_findBound 19 = .ok (.iload_n 2, 1) := by decide +kernel
theorem dX0_findBound_20 : decode cX0_findBound 20 = .ok (.if_icmp .ge 105, 3) := by decide +kernel
theorem dX0_findBound_23 : decode cX0_findBound 23 = .ok (.iconst 0, 1) := by decide +kernel
theorem dX0_findBound_24 : decode cX0_findBound 24 = .ok (.istore 6, 2) := by decide +kernel
theorem dX0_findBound_26 : decode cX0_findBound 26 = .ok (.iload 6, 2) := by decide +kernel
theorem dX0_findBound_28 : decode cX0_findBound 28 = .ok (.aload_n 0, 1) := by decide +kernel
theorem dX0_findBound_29 : decode cX0_findBound 29 = .ok (.getfield 37, 3) := by decide +kernel
theorem dX0_findBound_32 : decode cX0_findBound 32 = .ok (.arraylength, 1) := by decide +kernel
theorem dX0_findBound_33 : decode cX0_findBound 33 = .ok (.if_icmp .ge 43, 3) := by decide +kernel
theorem dX0_findBound_36 : decode cX0_findBound 36 = .ok (.iload 6, 2) := by decide +kernel
theorem dX0_findBound_38 : decode cX0_findBound 38 = .ok (.aload_n 0, 1) := by decide +kernel
theorem dX0_findBound_39 : decode cX0_findBound 39 = .ok (.getfield 34, 3) := by decide +kernel
theorem dX0_findBound_42 : decode cX0_findBound 42 = .ok (.arraylength, 1) := by decide +kernel
theorem dX0_findBound_43 : decode cX0_findBound 43 = .ok (.if_icmp .ge 33, 3) := by decide +kernel
theorem dX0_findBound_46 : decode cX0_findBound 46 = .ok (.aload_n 0, 1) := by decide +kernel
theorem dX0_findBound_47 : decode cX0_findBound 47 = .ok (.getfield 37, 3) := by decide +kernel
theorem dX0_findBound_50 : decode cX0_findBound 50 = .ok (.iload 6, 2) := by decide +kernel
theorem dX0_findBound_52 : decode cX0_findBound 52 = .ok (.aload_n 0, 1) := by decide +kernel
theorem dX0_findBound_53 : decode cX0_findBound 53 = .ok (.getfield 34, 3) := by decide +kernel
theorem dX0_findBound_56 : decode cX0_findBound 56 = .ok (.iload 6, 2) := by decide +kernel
theorem dX0_findBound_58 : decode cX0_findBound 58 = .ok (.laload, 1) := by decide +kernel
theorem dX0_findBound_59 : decode cX0_findBound 59 = .ok (.aload_n 0, 1) := by decide +kernel
theorem dX0_findBound_60 : decode cX0_findBound 60 = .ok (.aload_n 1, 1) := by decide +kernel
theorem dX0_findBound_61 : decode cX0_findBound 61 = .ok (.iload 4, 2) := by decide +kernel
theorem dX0_findBound_63 : decode cX0_findBound 63 = .ok (.iload 6, 2) := by decide +kernel
theorem dX0_findBound_65 : decode cX0_findBound 65 = .ok (.invokevirtual 151, 3) := by decide +kernel
theorem dX0_findBound_68 : decode cX0_findBound 68 = .ok (.ladd, 1) := by decide +kernel
theorem dX0_findBound_69 : decode cX0_findBound 69 = .ok (.lastore, 1) := by decide +kernel
theorem dX0_findBound_70 : decode cX0_findBound 70 = .ok (.iinc 6 1, 3) := by decide +kernel
theorem dX0_findBound_73 : decode cX0_findBound 73 = .ok (.goto (-47), 3) := by decide +kernel
theorem dX0_findBound_76 : decode cX0_findBound 76 = .ok (.iconst 0, 1) := by decide +kernel
theorem dX0_findBound_77 : decode cX0_findBound 77 = .ok (.istore 6, 2) := by decide +kernel
theorem dX0_findBound_79 : decode cX0_findBound 79 = .ok (.iload 6, 2) := by decide +kernel
theorem dX0_findBound_81 : decode cX0_findBound 81 = .ok (.aload_n 0, 1) := by decide +kernel
theorem dX0_findBound_82 : decode cX0_findBound 82 = .ok (.getfield 37, 3) := by decide +kernel
theorem dX0_findBound_85 : decode cX0_findBound 85 = .ok (.arraylength, 1) := by decide +kernel
theorem dX0_findBound_86 : decode cX0_findBound 86 = .ok (.if_icmp .ge 33, 3) := by decide +kernel
theorem dX0_findBound_89 : decode cX0_findBound 89 = .ok (.iload 6, 2) := by decide +kernel
theorem dX0_findBound_91 : decode cX0_findBound 91 = .ok (.aload_n 0, 1) := by decide +kernel
theorem dX0_findBound_92 : decode cX0_findBound 92 = .ok (.getfield 34, 3) := by decide +kernel
theorem dX0_findBound_95 : decode cX0_findBound 95 = .ok (.arraylength, 1) := by decide +kernel
theorem dX0_findBound_96 : decode cX0_findBound 96 = .ok (.if_icmp .ge 23, 3) := by decide +kernel
theorem dX0_findBound_99 : decode cX0_findBound 99 = .ok (.aload_n 0, 1) := by decide +kernel
theorem dX0_findBound_100 : decode cX0_findBound 100 = .ok (.getfield 34, 3) := by decide +kernel
theorem dX0_findBound_103 : decode cX0_findBound 103 = .ok (.iload 6, 2) := by decide +kernel
theorem dX0_findBound_105 : decode cX0_findBound 105 = .ok (.aload_n 0, 1) := by decide +kernel
theorem dX0_findBound_106 : decode cX0_findBound 106 = .ok (.getfield 37, 3) := by decide +kernel
theorem dX0_findBound_109 : decode cX0_findBound 109 = .ok (.iload 6, 2) := by decide +kernel
theorem dX0_findBound_111 : decode cX0_findBound 111 = .ok (.laload, 1) := by decide +kernel
theorem dX0_findBound_112 : decode cX0_findBound 112 = .ok (.lastore, 1) := by decide +kernel
theorem dX0_findBound_113 : decode cX0_findBound 113 = .ok (.iinc 6 1, 3) := by decide +kernel
theorem dX0_findBound_116 : decode cX0_findBound 116 = .ok (.goto (-37), 3) := by decide +kernel
theorem dX0_findBound_119 : decode cX0_findBound 119 = .ok (.iinc 5 1, 3) := by decide +kernel
theorem dX0_findBound_122 : decode cX0_findBound 122 = .ok (.goto (-105), 3) := by decide +kernel
theorem dX0_findBound_125 : decode cX0_findBound 125 = .ok (.ldc2_w 155, 3) := by decide +kernel
theorem dX0_findBound_128 : decode cX0_findBound 128 = .ok (.lstore 5, 2) := by decide +kernel
theorem dX0_findBound_130 : decode cX0_findBound 130 = .ok (.iconst 0, 1) := by decide +kernel
theorem dX0_findBound_131 : decode cX0_findBound 131 = .ok (.istore 7, 2) := by decide +kernel
theorem dX0_findBound_133 : decode cX0_findBound 133 = .ok (.iload 7, 2) := by decide +kernel
theorem dX0_findBound_135 : decode cX0_findBound 135 = .ok (.aload_n 0, 1) := by decide +kernel
theorem dX0_findBound_136 : decode cX0_findBound 136 = .ok (.getfield 34, 3) := by decide +kernel
theorem dX0_findBound_139 : decode cX0_findBound 139 = .ok (.arraylength, 1) := by decide +kernel
theorem dX0_findBound_140 : decode cX0_findBound 140 = .ok (.if_icmp .ge 127, 3) := by decide +kernel
theorem dX0_findBound_143 : decode cX0_findBound 143 = .ok (.aload_n 0, 1) := by decide +kernel
theorem dX0_findBound_144 : decode cX0_findBound 144 = .ok (.getfield 34, 3) := by decide +kernel
theorem dX0_findBound_147 : decode cX0_findBound 147 = .ok (.iload 7, 2) := by decide +kernel
theorem dX0_findBound_149 : decode cX0_findBound 149 = .ok (.laload, 1) := by decide +kernel
theorem dX0_findBound_150 : decode cX0_findBound 150 = .ok (.lstore 8, 2) := by decide +kernel
theorem dX0_findBound_152 : decode cX0_findBound 152 = .ok (.iload 4, 2) := by decide +kernel
theorem dX0_findBound_154 : decode cX0_findBound 154 = .ok (.iload 7, 2) := by decide +kernel
theorem dX0_findBound_156 : decode cX0_findBound 156 = .ok (.invokestatic 74, 3) := by decide +kernel
theorem dX0_findBound_159 : decode cX0_findBound 159 = .ok (.ifCond .eq 102, 3) := by decide +kernel
theorem dX0_findBound_162 : decode cX0_findBound 162 = .ok (.lload 8, 2) := by decide +kernel
theorem dX0_findBound_164 : decode cX0_findBound 164 = .ok (.lconst 0, 1) := by decide +kernel
theorem dX0_findBound_165 : decode cX0_findBound 165 = .ok (.lcmp, 1) := by decide +kernel
theorem dX0_findBound_166 : decode cX0_findBound 166 = .ok (.ifCond .le 95, 3) := by decide +kernel
theorem dX0_findBound_169 : decode cX0_findBound 169 = .ok (.ldc2_w 157, 3) := by decide +kernel
theorem dX0_findBound_172 : decode cX0_findBound 172 = .ok (.aload_n 0, 1) := by decide +kernel
theorem dX0_findBound_173 : decode cX0_findBound 173 = .ok (.aload_n 1, 1) := by decide +kernel
theorem dX0_findBound_174 : decode cX0_findBound 174 = .ok (.iload 4, 2) := by decide +kernel
theorem dX0_findBound_176 : decode cX0_findBound 176 = .ok (.iload 7, 2) := by decide +kernel
theorem dX0_findBound_178 : decode cX0_findBound 178 = .ok (.invokevirtual 151, 3) := by decide +kernel
theorem dX0_findBound_181 : decode cX0_findBound 181 = .ok (.lmul, 1) := by decide +kernel
theorem dX0_findBound_182 : decode cX0_findBound 182 = .ok (.lstore 10, 2) := by decide +kernel
theorem dX0_findBound_184 : decode cX0_findBound 184 = .ok (.iload_n 3, 1) := by decide +kernel
theorem dX0_findBound_185 : decode cX0_findBound 185 = .ok (.ifCond .eq 8, 3) := by decide +kernel
theorem dX0_findBound_188 : decode cX0_findBound 188 = .ok (.lload 10, 2) := by decide +kernel
theorem dX0_findBound_190 : decode cX0_findBound 190 = .ok (.goto 10, 3) := by decide +kernel
theorem dX0_findBound_193 : decode cX0_findBound 193 = .ok (.lload 10, 2) := by decide +kernel
theorem dX0_findBound_195 : decode cX0_findBound 195 = .ok (.lload 8, 2) := by decide +kernel
theorem dX0_findBound_197 : decode cX0_findBound 197 = .ok (.ladd, 1) := by decide +kernel
theorem dX0_findBound_198 : decode cX0_findBound 198 = .ok (.lconst 1, 1) := by decide +kernel
theorem dX0_findBound_199 : decode cX0_findBound 199 = .ok (.lsub, 1) := by decide +kernel
theorem dX0_findBound_200 : decode cX0_findBound 200 = .ok (.lload 8, 2) := by decide +kernel
theorem dX0_findBound_202 : decode cX0_findBound 202 = .ok (.ldiv, 1) := by decide +kernel
theorem dX0_findBound_203 : decode cX0_findBound 203 = .ok (.lstore 12, 2) := by decide +kernel
theorem dX0_findBound_205 : decode cX0_findBound 205 = .ok (.iload_n 3, 1) := by decide +kernel
theorem dX0_findBound_206 : decode cX0_findBound 206 = .ok (.ifCond .eq 19, 3) := by decide +kernel
theorem dX0_findBound_209 : decode cX0_findBound 209 = .ok (.lload 12, 2) := by decide +kernel
theorem dX0_findBound_211 : decode cX0_findBound 211 = .ok (.lload 5, 2) := by decide +kernel
theorem dX0_findBound_213 : decode cX0_findBound 213 = .ok (.lcmp, 1) := by decide +kernel
theorem dX0_findBound_214 : decode cX0_findBound 214 = .ok (.ifCond .ge 7, 3) := by decide +kernel
theorem dX0_findBound_217 : decode cX0_findBound 217 = .ok (.iconst 1, 1) := by decide +kernel
theorem dX0_findBound_218 : decode cX0_findBound 218 = .ok (.goto 20, 3) := by decide +kernel
theorem dX0_findBound_221 : decode cX0_findBound 221 = .ok (.iconst 0, 1) := by decide +kernel
theorem dX0_findBound_222 : decode cX0_findBound 222 = .ok (.goto 16, 3) := by decide +kernel
theorem dX0_findBound_225 : decode cX0_findBound 225 = .ok (.lload 12, 2) := by decide +kernel
theorem dX0_findBound_227 : decode cX0_findBound 227 = .ok (.lload 5, 2) := by decide +kernel
theorem dX0_findBound_229 : decode cX0_findBound 229 = .ok (.lcmp, 1) := by decide +kernel
theorem dX0_findBound_230 : decode cX0_findBound 230 = .ok (.ifCond .le 7, 3) := by decide +kernel
theorem dX0_findBound_233 : decode cX0_findBound 233 = .ok (.iconst 1, 1) := by decide +kernel
theorem dX0_findBound_234 : decode cX0_findBound 234 = .ok (.goto 4, 3) := by decide +kernel
theorem dX0_findBound_237 : decode cX0_findBound 237 = .ok (.iconst 0, 1) := by decide +kernel
theorem dX0_findBound_238 : decode cX0_findBound 238 = .ok (.istore 14, 2) := by decide +kernel
theorem dX0_findBound_240 : decode cX0_findBound 240 = .ok (.lload 5, 2) := by decide +kernel
theorem dX0_findBound_242 : decode cX0_findBound 242 = .ok (.lconst 0, 1) := by decide +kernel
theorem dX0_findBound_243 : decode cX0_findBound 243 = .ok (.lcmp, 1) := by decide +kernel
theorem dX0_findBound_244 : decode cX0_findBound 244 = .ok (.ifCond .lt 8, 3) := by decide +kernel
theorem dX0_findBound_247 : decode cX0_findBound 247 = .ok (.iload 14, 2) := by decide +kernel
theorem dX0_findBound_249 : decode cX0_findBound 249 = .ok (.ifCond .eq 8, 3) := by decide +kernel
theorem dX0_findBound_252 : decode cX0_findBound 252 = .ok (.lload 12, 2) := by decide +kernel
theorem dX0_findBound_254 : decode cX0_findBound 254 = .ok (.goto 5, 3) := by decide +kernel
theorem dX0_findBound_257 : decode cX0_findBound 257 = .ok (.lload 5, 2) := by decide +kernel
theorem dX0_findBound_259 : decode cX0_findBound 259 = .ok (.lstore 5, 2) := by decide +kernel
theorem dX0_findBound_261 : decode cX0_findBound 261 = .ok (.iinc 7 1, 3) := by decide +kernel
theorem dX0_findBound_264 : decode cX0_findBound 264 = .ok (.goto (-131), 3) := by decide +kernel
theorem dX0_findBound_267 : decode cX0_findBound 267 = .ok (.lload 5, 2) := by decide +kernel
theorem dX0_findBound_269 : decode cX0_findBound 269 = .ok (.lreturn, 1) := by decide +kernel
theorem dX0_graphCoefficient_0 : decode cX0_graphCoefficient 0 = .ok (.aload_n 0, 1) := by decide +kernel
theorem dX0_graphCoefficient_1 : decode cX0_graphCoefficient 1 = .ok (.aload_n 1, 1) := by decide +kernel
theorem dX0_graphCoefficient_2 : decode cX0_graphCoefficient 2 = .ok (.invokevirtual 46, 3) := by decide +kernel
theorem dX0_graphCoefficient_5 : decode cX0_graphCoefficient 5 = .ok (.aload_n 0, 1) := by decide +kernel
theorem dX0_graphCoefficient_6 : decode cX0_graphCoefficient 6 = .ok (.aload_n 0, 1) := by decide +kernel
theorem dX0_graphCoefficient_7 : decode cX0_graphCoefficient 7 = .ok (.getfield 21, 3) := by decide +kernel
theorem dX0_graphCoefficient_10 : decode cX0_graphCoefficient 10 = .ok (.iload_n 2, 1) := by decide +kernel
theorem dX0_graphCoefficient_11 : decode cX0_graphCoefficient 11 = .ok (.invokevirtual 50, 3) := by decide +kernel
theorem dX0_graphCoefficient_14 : decode cX0_graphCoefficient 14 = .ok (.lreturn, 1) := by decide +kernel
theorem dX0_init_0 : decode cX0_init 0 = .ok (.aload_n 0, 1) := by decide +kernel
theorem dX0_init_1 : decode cX0_init 1 = .ok (.invokespecial 3, 3) := by decide +kernel
theorem dX0_init_4 : decode cX0_init 4 = .ok (.aload_n 0, 1) := by decide +kernel
theorem dX0_init_5 : decode cX0_init 5 = .ok (.new 9, 3) := by decide +kernel
theorem dX0_init_8 : decode cX0_init 8 = .ok (.dup, 1) := by decide +kernel
theorem dX0_init_9 : decode cX0_init 9 = .ok (.invokespecial 11, 3) := by decide +kernel
theorem dX0_init_12 : decode cX0_init 12 = .ok (.putfield 12, 3) := by decide +kernel
theorem dX0_init_15 : decode cX0_init 15 = .ok (.aload_n 0, 1) := by decide +kernel
theorem dX0_init_16 : decode cX0_init 16 = .ok (.new 9, 3) := by decide +kernel
theorem dX0_init_19 : decode cX0_init 19 = .ok (.dup, 1) := by decide +kernel
theorem dX0_init_20 : decode cX0_init 20 = .ok (.invokespecial 11, 3) := by decide +kernel
theorem dX0_init_23 : decode cX0_init 23 = .ok (.putfield 18, 3) := by decide +kernel
theorem dX0_init_26 : decode cX0_init 26 = .ok (.aload_n 0, 1) := by decide +kernel
theorem dX0_init_27 : decode cX0_init 27 = .ok (.new 9, 3) := by decide +kernel
theorem dX0_init_30 : decode cX0_init 30 = .ok (.dup, 1) := by decide +kernel
theorem dX0_init_31 : decode cX0_init 31 = .ok (.invokespecial 11, 3) := by decide +kernel
theorem dX0_init_34 : decode cX0_init 34 = .ok (.putfield 21, 3) := by decide +kernel
theorem dX0_init_37 : decode cX0_init 37 = .ok (.aload_n 0, 1) := by decide +kernel
theorem dX0_init_38 : decode cX0_init 38 = .ok (.bipush 25, 2) := by decide +kernel
theorem dX0_init_40 : decode cX0_init 40 = .ok (.newarray .long, 2) := by decide +kernel
theorem dX0_init_42 : decode cX0_init 42 = .ok (.putfield 24, 3) := by decide +kernel
theorem dX0_init_45 : decode cX0_init 45 = .ok (.aload_n 0, 1) := by decide +kernel
theorem dX0_init_46 : decode cX0_init 46 = .ok (.sipush 1024, 3) := by decide +kernel
theorem dX0_init_49 : decode cX0_init 49 = .ok (.newarray .long, 2) := by decide +kernel
theorem dX0_init_51 : decode cX0_init 51 = .ok (.putfield 28, 3) := by decide +kernel
theorem dX0_init_54 : decode cX0_init 54 = .ok (.aload_n 0, 1) := by decide +kernel
theorem dX0_init_55 : decode cX0_init 55 = .ok (.bipush 6, 2) := by decide +kernel
theorem dX0_init_57 : decode cX0_init 57 = .ok (.newarray .long, 2) := by decide +kernel
theorem dX0_init_59 : decode cX0_init 59 = .ok (.putfield 31, 3) := by decide +kernel
theorem dX0_init_62 : decode cX0_init 62 = .ok (.aload_n 0, 1) := by decide +kernel
theorem dX0_init_63 : decode cX0_init 63 = .ok (.bipush 24, 2) := by decide +kernel
theorem dX0_init_65 : decode cX0_init 65 = .ok (.newarray .long, 2) := by decide +kernel
theorem dX0_init_67 : decode cX0_init 67 = .ok (.putfield 34, 3) := by decide +kernel
theorem dX0_init_70 : decode cX0_init 70 = .ok (.aload_n 0, 1) := by decide +kernel
theorem dX0_init_71 : decode cX0_init 71 = .ok (.bipush 24, 2) := by decide +kernel
theorem dX0_init_73 : decode cX0_init 73 = .ok (.newarray .long, 2) := by decide +kernel
theorem dX0_init_75 : decode cX0_init 75 = .ok (.putfield 37, 3) := by decide +kernel
theorem dX0_init_78 : decode cX0_init 78 = .ok (.return_, 1) := by decide +kernel
theorem dX0_keepCoefficient_0 : decode cX0_keepCoefficient 0 = .ok (.iload_n 1, 1) := by decide +kernel
theorem dX0_keepCoefficient_1 : decode cX0_keepCoefficient 1 = .ok (.ifCond .lt 19, 3) := by decide +kernel
theorem dX0_keepCoefficient_4 : decode cX0_keepCoefficient 4 = .ok (.iload_n 1, 1) := by decide +kernel
theorem dX0_keepCoefficient_5 : decode cX0_keepCoefficient 5 = .ok (.aload_n 0, 1) := by decide +kernel
theorem dX0_keepCoefficient_6 : decode cX0_keepCoefficient 6 = .ok (.getfield 24, 3) := by decide +kernel
theorem dX0_keepCoefficient_9 : decode cX0_keepCoefficient 9 = .ok (.arraylength, 1) := by decide +kernel
theorem dX0_keepCoefficient_10 : decode cX0_keepCoefficient 10 = .ok (.if_icmp .ge 10, 3) := by decide +kernel
theorem dX0_keepCoefficient_13 : decode cX0_keepCoefficient 13 = .ok (.aload_n 0, 1) := by decide +kernel
theorem dX0_keepCoefficient_14 : decode cX0_keepCoefficient 14 = .ok (.getfield 24, 3) := by decide +kernel
theorem dX0_keepCoefficient_17 : decode cX0_keepCoefficient 17 = .ok (.iload_n 1, 1) := by decide +kernel
theorem dX0_keepCoefficient_18 : decode cX0_keepCoefficient 18 = .ok (.lload_n 2, 1) := by decide +kernel
theorem dX0_keepCoefficient_19 : decode cX0_keepCoefficient 19 = .ok (.lastore, 1) := by decide +kernel
theorem dX0_keepCoefficient_20 : decode cX0_keepCoefficient 20 = .ok (.return_, 1) := by decide +kernel
theorem dX0_powerOf_0 : decode cX0_powerOf 0 = .ok (.aload_n 0, 1) := by decide +kernel
theorem dX0_powerOf_1 : decode cX0_powerOf 1 = .ok (.getfield 12, 3) := by decide +kernel
theorem dX0_powerOf_4 : decode cX0_powerOf 4 = .ok (.astore_n 3, 1) := by decide +kernel
theorem dX0_powerOf_5 : decode cX0_powerOf 5 = .ok (.aload_n 0, 1) := by decide +kernel
theorem dX0_powerOf_6 : decode cX0_powerOf 6 = .ok (.getfield 18, 3) := by decide +kernel
theorem dX0_powerOf_9 : decode cX0_powerOf 9 = .ok (.astore 4, 2) := by decide +kernel
theorem dX0_powerOf_11 : decode cX0_powerOf 11 = .ok (.aload_n 3, 1) := by decide +kernel
theorem dX0_powerOf_12 : decode cX0_powerOf 12 = .ok (.aload_n 1, 1) := by decide +kernel
theorem dX0_powerOf_13 : decode cX0_powerOf 13 = .ok (.invokevirtual 118, 3) := by decide +kernel
theorem dX0_powerOf_16 : decode cX0_powerOf 16 = .ok (.iconst 1, 1) := by decide +kernel
theorem dX0_powerOf_17 : decode cX0_powerOf 17 = .ok (.istore 5, 2) := by decide +kernel
theorem dX0_powerOf_19 : decode cX0_powerOf 19 = .ok (.iload 5, 2) := by decide +kernel
theorem dX0_powerOf_21 : decode cX0_powerOf 21 = .ok (.iload_n 2, 1) := by decide +kernel
theorem dX0_powerOf_22 : decode cX0_powerOf 22 = .ok (.if_icmp .ge 26, 3) := by decide +kernel
theorem dX0_powerOf_25 : decode cX0_powerOf 25 = .ok (.aload 4, 2) := by decide +kernel
theorem dX0_powerOf_27 : decode cX0_powerOf 27 = .ok (.aload_n 3, 1) := by decide +kernel
theorem dX0_powerOf_28 : decode cX0_powerOf 28 = .ok (.aload_n 1, 1) := by decide +kernel
theorem dX0_powerOf_29 : decode cX0_powerOf 29 = .ok (.invokevirtual 110, 3) := by decide +kernel
theorem dX0_powerOf_32 : decode cX0_powerOf 32 = .ok (.aload_n 3, 1) := by decide +kernel
theorem dX0_powerOf_33 : decode cX0_powerOf 33 = .ok (.astore 6, 2) := by decide +kernel
theorem dX0_powerOf_35 : decode cX0_powerOf 35 = .ok (.aload 4, 2) := by decide +kernel
theorem dX0_powerOf_37 : decode cX0_powerOf 37 = .ok (.astore_n 3, 1) := by decide +kernel
theorem dX0_powerOf_38 : decode cX0_powerOf 38 = .ok (.aload 6, 2) := by decide +kernel
theorem dX0_powerOf_40 : decode cX0_powerOf 40 = .ok (.astore 4, 2) := by decide +kernel
theorem dX0_powerOf_42 : decode cX0_powerOf 42 = .ok (.iinc 5 1, 3) := by decide +kernel
theorem dX0_powerOf_45 : decode cX0_powerOf 45 = .ok (.goto (-26), 3) := by decide +kernel
theorem dX0_powerOf_48 : decode cX0_powerOf 48 = .ok (.aload_n 3, 1) := by decide +kernel
theorem dX0_powerOf_49 : decode cX0_powerOf 49 = .ok (.areturn, 1) := by decide +kernel
theorem dX0_sumBehind_0 : decode cX0_sumBehind 0 = .ok (.lconst 0, 1) := by decide +kernel
theorem dX0_sumBehind_1 : decode cX0_sumBehind 1 = .ok (.lstore 4, 2) := by decide +kernel
theorem dX0_sumBehind_3 : decode cX0_sumBehind 3 = .ok (.iconst 0, 1) := by decide +kernel
theorem dX0_sumBehind_4 : decode cX0_sumBehind 4 = .ok (.istore 6, 2) := by decide +kernel
theorem dX0_sumBehind_6 : decode cX0_sumBehind 6 = .ok (.iload 6, 2) := by decide +kernel
theorem dX0_sumBehind_8 : decode cX0_sumBehind 8 = .ok (.aload_n 1, 1) := by decide +kernel
theorem dX0_sumBehind_9 : decode cX0_sumBehind 9 = .ok (.getfield 82, 3) := by decide +kernel
theorem dX0_sumBehind_12 : decode cX0_sumBehind 12 = .ok (.if_icmp .ge 61, 3) := by decide +kernel
theorem dX0_sumBehind_15 : decode cX0_sumBehind 15 = .ok (.aload_n 1, 1) := by decide +kernel
theorem dX0_sumBehind_16 : decode cX0_sumBehind 16 = .ok (.iload_n 3, 1) := by decide +kernel
theorem dX0_sumBehind_17 : decode cX0_sumBehind 17 = .ok (.iload 6, 2) := by decide +kernel
theorem dX0_sumBehind_19 : decode cX0_sumBehind 19 = .ok (.invokevirtual 85, 3) := by decide +kernel
theorem dX0_sumBehind_22 : decode cX0_sumBehind 22 = .ok (.iload_n 2, 1) := by decide +kernel
theorem dX0_sumBehind_23 : decode cX0_sumBehind 23 = .ok (.iand, 1) := by decide +kernel
theorem dX0_sumBehind_24 : decode cX0_sumBehind 24 = .ok (.istore 7, 2) := by decide +kernel
theorem dX0_sumBehind_26 : decode cX0_sumBehind 26 = .ok (.iconst 0, 1) := by decide +kernel
theorem dX0_sumBehind_27 : decode cX0_sumBehind 27 = .ok (.istore 8, 2) := by decide +kernel
theorem dX0_sumBehind_29 : decode cX0_sumBehind 29 = .ok (.iload 8, 2) := by decide +kernel
theorem dX0_sumBehind_31 : decode cX0_sumBehind 31 = .ok (.aload_n 0, 1) := by decide +kernel
theorem dX0_sumBehind_32 : decode cX0_sumBehind 32 = .ok (.getfield 34, 3) := by decide +kernel
theorem dX0_sumBehind_35 : decode cX0_sumBehind 35 = .ok (.arraylength, 1) := by decide +kernel
theorem dX0_sumBehind_36 : decode cX0_sumBehind 36 = .ok (.if_icmp .ge 31, 3) := by decide +kernel
theorem dX0_sumBehind_39 : decode cX0_sumBehind 39 = .ok (.iload 7, 2) := by decide +kernel
theorem dX0_sumBehind_41 : decode cX0_sumBehind 41 = .ok (.iload 8, 2) := by decide +kernel
theorem dX0_sumBehind_43 : decode cX0_sumBehind 43 = .ok (.invokestatic 74, 3) := by decide +kernel
theorem dX0_sumBehind_46 : decode cX0_sumBehind 46 = .ok (.ifCond .eq 15, 3) := by decide +kernel
theorem dX0_sumBehind_49 : decode cX0_sumBehind 49 = .ok (.lload 4, 2) := by decide +kernel
theorem dX0_sumBehind_51 : decode cX0_sumBehind 51 = .ok (.aload_n 0, 1) := by decide +kernel
theorem dX0_sumBehind_52 : decode cX0_sumBehind 52 = .ok (.getfield 34, 3) := by decide +kernel
theorem dX0_sumBehind_55 : decode cX0_sumBehind 55 = .ok (.iload 8, 2) := by decide +kernel
theorem dX0_sumBehind_57 : decode cX0_sumBehind 57 = .ok (.laload, 1) := by decide +kernel
theorem dX0_sumBehind_58 : decode cX0_sumBehind 58 = .ok (.ladd, 1) := by decide +kernel
theorem dX0_sumBehind_59 : decode cX0_sumBehind 59 = .ok (.lstore 4, 2) := by decide +kernel
theorem dX0_sumBehind_61 : decode cX0_sumBehind 61 = .ok (.iinc 8 1, 3) := by decide +kernel
theorem dX0_sumBehind_64 : decode cX0_sumBehind 64 = .ok (.goto (-35), 3) := by decide +kernel
theorem dX0_sumBehind_67 : decode cX0_sumBehind 67 = .ok (.iinc 6 1, 3) := by decide +kernel
theorem dX0_sumBehind_70 : decode cX0_sumBehind 70 = .ok (.goto (-64), 3) := by decide +kernel
theorem dX0_sumBehind_73 : decode cX0_sumBehind 73 = .ok (.lload 4, 2) := by decide +kernel
theorem dX0_sumBehind_75 : decode cX0_sumBehind 75 = .ok (.lreturn, 1) := by decide +kernel
theorem dX10_countParts_0 : decode cX10_countParts 0 = .ok (.aload_n 0, 1) := by decide +kernel
theorem dX10_countParts_1 : decode cX10_countParts 1 = .ok (.aload_n 1, 1) := by decide +kernel
theorem dX10_countParts_2 : decode cX10_countParts 2 = .ok (.invokevirtual 31, 3) := by decide +kernel
theorem dX10_countParts_5 : decode cX10_countParts 5 = .ok (.iconst 0, 1) := by decide +kernel
theorem dX10_countParts_6 : decode cX10_countParts 6 = .ok (.istore_n 2, 1) := by decide +kernel
theorem dX10_countParts_7 : decode cX10_countParts 7 = .ok (.iconst 0, 1) := by decide +kernel
theorem dX10_countParts_8 : decode cX10_countParts 8 = .ok (.istore_n 3, 1) := by decide +kernel
theorem dX10_countParts_9 : decode cX10_countParts 9 = .ok (.iload_n 3, 1) := by decide +kernel
theorem dX10_countParts_10 : decode cX10_countParts 10 = .ok (.aload_n 1, 1) := by decide +kernel
theorem dX10_countParts_11 : decode cX10_countParts 11 = .ok (.getfield 35, 3) := by decide +kernel
theorem dX10_countParts_14 : decode cX10_countParts 14 = .ok (.if_icmp .ge 47, 3) := by decide +kernel
theorem dX10_countParts_17 : decode cX10_countParts 17 = .ok (.aload_n 0, 1) := by decide +kernel
theorem dX10_countParts_18 : decode cX10_countParts 18 = .ok (.iload_n 3, 1) := by decide +kernel
theorem dX10_countParts_19 : decode cX10_countParts 19 = .ok (.invokevirtual 39, 3) := by decide +kernel
theorem dX10_countParts_22 : decode cX10_countParts 22 = .ok (.istore 4, 2) := by decide +kernel
theorem dX10_countParts_24 : decode cX10_countParts 24 = .ok (.iload 4, 2) := by decide +kernel
theorem dX10_countParts_26 : decode cX10_countParts 26 = .ok (.iconst 1, 1) := by decide +kernel
theorem dX10_countParts_27 : decode cX10_countParts 27 = .ok (.iload_n 3, 1) := by decide +kernel
theorem dX10_countParts_28 : decode cX10_countParts 28 = .ok (.ishl, 1) := by decide +kernel
theorem dX10_countParts_29 : decode cX10_countParts 29 = .ok (.iconst 1, 1) := by decide +kernel
theorem dX10_countParts_30 : decode cX10_countParts 30 = .ok (.isub, 1) := by decide +kernel
theorem dX10_countParts_31 : decode cX10_countParts 31 = .ok (.iand, 1) := by decide +kernel
theorem dX10_countParts_32 : decode cX10_countParts 32 = .ok (.ifCond .ne 7, 3) := by decide +kernel
theorem dX10_countParts_35 : decode cX10_countParts 35 = .ok (.iconst 1, 1) := by decide +kernel
theorem dX10_countParts_36 : decode cX10_countParts 36 = .ok (.goto 4, 3) := by decide +kernel
theorem dX10_countParts_39 : decode cX10_countParts 39 = .ok (.iconst 0, 1) := by decide +kernel
theorem dX10_countParts_40 : decode cX10_countParts 40 = .ok (.istore 5, 2) := by decide +kernel
theorem dX10_countParts_42 : decode cX10_countParts 42 = .ok (.iload 4, 2) := by decide +kernel
theorem dX10_countParts_44 : decode cX10_countParts 44 = .ok (.ifCond .eq 11, 3) := by decide +kernel
theorem dX10_countParts_47 : decode cX10_countParts 47 = .ok (.iload 5, 2) := by decide +kernel
theorem dX10_countParts_49 : decode cX10_countParts 49 = .ok (.ifCond .eq 6, 3) := by decide +kernel
theorem dX10_countParts_52 : decode cX10_countParts 52 = .ok (.iinc 2 1, 3) := by decide +kernel
theorem dX10_countParts_55 : decode cX10_countParts 55 = .ok (.iinc 3 1, 3) := by decide +kernel
theorem dX10_countParts_58 : decode cX10_countParts 58 = .ok (.goto (-49), 3) := by decide +kernel
theorem dX10_countParts_61 : decode cX10_countParts 61 = .ok (.iload_n 2, 1) := by decide +kernel
theorem dX10_countParts_62 : decode cX10_countParts 62 = .ok (.ireturn, 1) := by decide +kernel
theorem dX10_follow_0 : decode cX10_follow 0 = .ok (.iconst 0, 1) := by decide +kernel
theorem dX10_follow_1 : decode cX10_follow 1 = .ok (.istore_n 2, 1) := by decide +kernel
theorem dX10_follow_2 : decode cX10_follow 2 = .ok (.iload_n 2, 1) := by decide +kernel
theorem dX10_follow_3 : decode cX10_follow 3 = .ok (.aload_n 0, 1) := by decide +kernel
theorem dX10_follow_4 : decode cX10_follow 4 = .ok (.getfield 9, 3) := by decide +kernel
theorem dX10_follow_7 : decode cX10_follow 7 = .ok (.arraylength, 1) := by decide +kernel
theorem dX10_follow_8 : decode cX10_follow 8 = .ok (.if_icmp .ge 20, 3) := by decide +kernel
theorem dX10_follow_11 : decode cX10_follow 11 = .ok (.aload_n 0, 1) := by decide +kernel
theorem dX10_follow_12 : decode cX10_follow 12 = .ok (.getfield 9, 3) := by decide +kernel
theorem dX10_follow_15 : decode cX10_follow 15 = .ok (.iload_n 2, 1) := by decide +kernel
theorem dX10_follow_16 : decode cX10_follow 16 = .ok (.aload_n 1, 1) := by decide +kernel
theorem dX10_follow_17 : decode cX10_follow 17 = .ok (.iload_n 2, 1) := by decide +kernel
theorem dX10_follow_18 : decode cX10_follow 18 = .ok (.invokevirtual 18, 3) := by decide +kernel
theorem dX10_follow_21 : decode cX10_follow 21 = .ok (.iastore, 1) := by decide +kernel
theorem dX10_follow_22 : decode cX10_follow 22 = .ok (.iinc 2 1, 3) := by decide +kernel
theorem dX10_follow_25 : decode cX10_follow 25 = .ok (.goto (-23), 3) := by decide +kernel
theorem dX10_follow_28 : decode cX10_follow 28 = .ok (.iconst 0, 1) := by decide +kernel
theorem dX10_follow_29 : decode cX10_follow 29 = .ok (.istore_n 2, 1) := by decide +kernel
theorem dX10_follow_30 : decode cX10_follow 30 = .ok (.iload_n 2, 1) := by decide +kernel
theorem dX10_follow_31 : decode cX10_follow 31 = .ok (.aload_n 0, 1) := by decide +kernel
theorem dX10_follow_32 : decode cX10_follow 32 = .ok (.getfield 9, 3) := by decide +kernel
theorem dX10_follow_35 : decode cX10_follow 35 = .ok (.arraylength, 1) := by decide +kernel
theorem dX10_follow_36 : decode cX10_follow 36 = .ok (.if_icmp .ge 54, 3) := by decide +kernel
theorem dX10_follow_39 : decode cX10_follow 39 = .ok (.iconst 0, 1) := by decide +kernel
theorem dX10_follow_40 : decode cX10_follow 40 = .ok (.istore_n 3, 1) := by decide +kernel
theorem dX10_follow_41 : decode cX10_follow 41 = .ok (.iload_n 3, 1) := by decide +kernel
theorem dX10_follow_42 : decode cX10_follow 42 = .ok (.aload_n 0, 1) := by decide +kernel
theorem dX10_follow_43 : decode cX10_follow 43 = .ok (.getfield 9, 3) := by decide +kernel
theorem dX10_follow_46 : decode cX10_follow 46 = .ok (.arraylength, 1) := by decide +kernel
theorem dX10_follow_47 : decode cX10_follow 47 = .ok (.if_icmp .ge 37, 3) := by decide +kernel
theorem dX10_follow_50 : decode cX10_follow 50 = .ok (.aload_n 0, 1) := by decide +kernel
theorem dX10_follow_51 : decode cX10_follow 51 = .ok (.getfield 9, 3) := by decide +kernel
theorem dX10_follow_54 : decode cX10_follow 54 = .ok (.iload_n 3, 1) := by decide +kernel
theorem dX10_follow_55 : decode cX10_follow 55 = .ok (.iaload, 1) := by decide +kernel
theorem dX10_follow_56 : decode cX10_follow 56 = .ok (.iload_n 2, 1) := by decide +kernel
theorem dX10_follow_57 : decode cX10_follow 57 = .ok (.invokestatic 24, 3) := by decide +kernel
theorem dX10_follow_60 : decode cX10_follow 60 = .ok (.ifCond .eq 18, 3) := by decide +kernel
theorem dX10_follow_63 : decode cX10_follow 63 = .ok (.aload_n 0, 1) := by decide +kernel
theorem dX10_follow_64 : decode cX10_follow 64 = .ok (.getfield 9, 3) := by decide +kernel
theorem dX10_follow_67 : decode cX10_follow 67 = .ok (.iload_n 3, 1) := by decide +kernel
theorem dX10_follow_68 : decode cX10_follow 68 = .ok (.dup2, 1) := by decide +kernel
theorem dX10_follow_69 : decode cX10_follow 69 = .ok (.iaload, 1) := by decide +kernel
theorem dX10_follow_70 : decode cX10_follow 70 = .ok (.aload_n 0, 1) := by decide +kernel
theorem dX10_follow_71 : decode cX10_follow 71 = .ok (.getfield 9, 3) := by decide +kernel
theorem dX10_follow_74 : decode cX10_follow 74 = .ok (.iload_n 2, 1) := by decide +kernel
theorem dX10_follow_75 : decode cX10_follow 75 = .ok (.iaload, 1) := by decide +kernel
theorem dX10_follow_76 : decode cX10_follow 76 = .ok (.ior, 1) := by decide +kernel
theorem dX10_follow_77 : decode cX10_follow 77 = .ok (.iastore, 1) := by decide +kernel
theorem dX10_follow_78 : decode cX10_follow 78 = .ok (.iinc 3 1, 3) := by decide +kernel
theorem dX10_follow_81 : decode cX10_follow 81 = .ok (.goto (-40), 3) := by decide +kernel
theorem dX10_follow_84 : decode cX10_follow 84 = .ok (.iinc 2 1, 3) := by decide +kernel
theorem dX10_follow_87 : decode cX10_follow 87 = .ok (.goto (-57), 3) := by decide +kernel
theorem dX10_follow_90 : decode cX10_follow 90 = .ok (.return_, 1) := by decide +kernel
theorem dX10_init_0 : decode cX10_init 0 = .ok (.aload_n 0, 1) := by decide +kernel
theorem dX10_init_1 : decode cX10_init 1 = .ok (.invokespecial 3, 3) := by decide +kernel
theorem dX10_init_4 : decode cX10_init 4 = .ok (.aload_n 0, 1) := by decide +kernel
theorem dX10_init_5 : decode cX10_init 5 = .ok (.bipush 24, 2) := by decide +kernel
theorem dX10_init_7 : decode cX10_init 7 = .ok (.newarray .int, 2) := by decide +kernel
theorem dX10_init_9 : decode cX10_init 9 = .ok (.putfield 9, 3) := by decide +kernel
theorem dX10_init_12 : decode cX10_init 12 = .ok (.aload_n 0, 1) := by decide +kernel
theorem dX10_init_13 : decode cX10_init 13 = .ok (.bipush 24, 2) := by decide +kernel
theorem dX10_init_15 : decode cX10_init 15 = .ok (.newarray .int, 2) := by decide +kernel
theorem dX10_init_17 : decode cX10_init 17 = .ok (.putfield 15, 3) := by decide +kernel
theorem dX10_init_20 : decode cX10_init 20 = .ok (.return_, 1) := by decide +kernel
theorem dX10_isOnePart_0 : decode cX10_isOnePart 0 = .ok (.aload_n 0, 1) := by decide +kernel
theorem dX10_isOnePart_1 : decode cX10_isOnePart 1 = .ok (.aload_n 1, 1) := by decide +kernel
theorem dX10_isOnePart_2 : decode cX10_isOnePart 2 = .ok (.invokevirtual 31, 3) := by decide +kernel
theorem dX10_isOnePart_5 : decode cX10_isOnePart 5 = .ok (.aload_n 1, 1) := by decide +kernel
theorem dX10_isOnePart_6 : decode cX10_isOnePart 6 = .ok (.invokevirtual 42, 3) := by decide +kernel
theorem dX10_isOnePart_9 : decode cX10_isOnePart 9 = .ok (.istore_n 2, 1) := by decide +kernel
theorem dX10_isOnePart_10 : decode cX10_isOnePart 10 = .ok (.iconst 0, 1) := by decide +kernel
theorem dX10_isOnePart_11 : decode cX10_isOnePart 11 = .ok (.istore_n 3, 1) := by decide +kernel
theorem dX10_isOnePart_12 : decode cX10_isOnePart 12 = .ok (.iload_n 3, 1) := by decide +kernel
theorem dX10_isOnePart_13 : decode cX10_isOnePart 13 = .ok (.aload_n 1, 1) := by decide +kernel
theorem dX10_isOnePart_14 : decode cX10_isOnePart 14 = .ok (.getfield 35, 3) := by decide +kernel
theorem dX10_isOnePart_17 : decode cX10_isOnePart 17 = .ok (.if_icmp .ge 32, 3) := by decide +kernel
theorem dX10_isOnePart_20 : decode cX10_isOnePart 20 = .ok (.iload_n 2, 1) := by decide +kernel
theorem dX10_isOnePart_21 : decode cX10_isOnePart 21 = .ok (.iload_n 3, 1) := by decide +kernel
theorem dX10_isOnePart_22 : decode cX10_isOnePart 22 = .ok (.invokestatic 24, 3) := by decide +kernel
theorem dX10_isOnePart_25 : decode cX10_isOnePart 25 = .ok (.ifCond .eq 18, 3) := by decide +kernel
theorem dX10_isOnePart_28 : decode cX10_isOnePart 28 = .ok (.aload_n 0, 1) := by decide +kernel
theorem dX10_isOnePart_29 : decode cX10_isOnePart 29 = .ok (.iload_n 3, 1) := by decide +kernel
theorem dX10_isOnePart_30 : decode cX10_isOnePart 30 = .ok (.invokevirtual 39, 3) := by decide +kernel
theorem dX10_isOnePart_33 : decode cX10_isOnePart 33 = .ok (.iload_n 2, 1) := by decide +kernel
theorem dX10_isOnePart_34 : decode cX10_isOnePart 34 = .ok (.if_icmp .ne 7, 3) := by decide +kernel
theorem dX10_isOnePart_37 : decode cX10_isOnePart 37 = .ok (.iconst 1, 1) := by decide +kernel
theorem dX10_isOnePart_38 : decode cX10_isOnePart 38 = .ok (.goto 4, 3) := by decide +kernel
theorem dX10_isOnePart_41 : decode cX10_isOnePart 41 = .ok (.iconst 0, 1) := by decide +kernel
theorem dX10_isOnePart_42 : decode cX10_isOnePart 42 = .ok (.ireturn, 1) := by decide +kernel
theorem dX10_isOnePart_43 : decode cX10_isOnePart 43 = .ok (.iinc 3 1, 3) := by decide +kernel
theorem dX10_isOnePart_46 : decode cX10_isOnePart 46 = .ok (.goto (-34), 3) := by decide +kernel
theorem dX10_isOnePart_49 : decode cX10_isOnePart 49 = .ok (.iconst 0, 1) := by decide +kernel
theorem dX10_isOnePart_50 : decode cX10_isOnePart 50 = .ok (.ireturn, 1) := by decide +kernel
theorem dX10_partOf_0 : decode cX10_partOf 0 = .ok (.iconst 0, 1) := by decide +kernel
theorem dX10_partOf_1 : decode cX10_partOf 1 = .ok (.istore_n 2, 1) := by decide +kernel
theorem dX10_partOf_2 : decode cX10_partOf 2 = .ok (.iconst 0, 1) := by decide +kernel
theorem dX10_partOf_3 : decode cX10_partOf 3 = .ok (.istore_n 3, 1) := by decide +kernel
theorem dX10_partOf_4 : decode cX10_partOf 4 = .ok (.iload_n 3, 1) := by decide +kernel
theorem dX10_partOf_5 : decode cX10_partOf 5 = .ok (.aload_n 0, 1) := by decide +kernel
theorem dX10_partOf_6 : decode cX10_partOf 6 = .ok (.getfield 9, 3) := by decide +kernel
theorem dX10_partOf_9 : decode cX10_partOf 9 = .ok (.arraylength, 1) := by decide +kernel
theorem dX10_partOf_10 : decode cX10_partOf 10 = .ok (.if_icmp .ge 40, 3) := by decide +kernel
theorem dX10_partOf_13 : decode cX10_partOf 13 = .ok (.aload_n 0, 1) := by decide +kernel
theorem dX10_partOf_14 : decode cX10_partOf 14 = .ok (.iload_n 1, 1) := by decide +kernel
theorem dX10_partOf_15 : decode cX10_partOf 15 = .ok (.invokevirtual 28, 3) := by decide +kernel
theorem dX10_partOf_18 : decode cX10_partOf 18 = .ok (.iload_n 3, 1) := by decide +kernel
theorem dX10_partOf_19 : decode cX10_partOf 19 = .ok (.invokestatic 24, 3) := by decide +kernel
theorem dX10_partOf_22 : decode cX10_partOf 22 = .ok (.ifCond .eq 22, 3) := by decide +kernel
theorem dX10_partOf_25 : decode cX10_partOf 25 = .ok (.aload_n 0, 1) := by decide +kernel
theorem dX10_partOf_26 : decode cX10_partOf 26 = .ok (.getfield 9, 3) := by decide +kernel
theorem dX10_partOf_29 : decode cX10_partOf 29 = .ok (.iload_n 3, 1) := by decide +kernel
theorem dX10_partOf_30 : decode cX10_partOf 30 = .ok (.iaload, 1) := by decide +kernel
theorem dX10_partOf_31 : decode cX10_partOf 31 = .ok (.iload_n 1, 1) := by decide +kernel
theorem dX10_partOf_32 : decode cX10_partOf 32 = .ok (.invokestatic 24, 3) := by decide +kernel
theorem dX10_partOf_35 : decode cX10_partOf 35 = .ok (.ifCond .eq 9, 3) := by decide +kernel
theorem dX10_partOf_38 : decode cX10_partOf 38 = .ok (.iload_n 2, 1) := by decide +kernel
theorem dX10_partOf_39 : decode cX10_partOf 39 = .ok (.iconst 1, 1) := by decide +kernel
theorem dX10_partOf_40 : decode cX10_partOf 40 = .ok (.iload_n 3, 1) := by decide +kernel
theorem dX10_partOf_41 : decode cX10_partOf 41 = .ok (.ishl, 1) := by decide +kernel
theorem dX10_partOf_42 : decode cX10_partOf 42 = .ok (.ior, 1) := by decide +kernel
theorem dX10_partOf_43 : decode cX10_partOf 43 = .ok (.istore_n 2, 1) := by decide +kernel
theorem dX10_partOf_44 : decode cX10_partOf 44 = .ok (.iinc 3 1, 3) := by decide +kernel
theorem dX10_partOf_47 : decode cX10_partOf 47 = .ok (.goto (-43), 3) := by decide +kernel
theorem dX10_partOf_50 : decode cX10_partOf 50 = .ok (.iload_n 2, 1) := by decide +kernel
theorem dX10_partOf_51 : decode cX10_partOf 51 = .ok (.ireturn, 1) := by decide +kernel
theorem dX10_reachOf_0 : decode cX10_reachOf 0 = .ok (.iload_n 1, 1) := by decide +kernel
theorem dX10_reachOf_1 : decode cX10_reachOf 1 = .ok (.ifCond .lt 21, 3) := by decide +kernel
theorem dX10_reachOf_4 : decode cX10_reachOf 4 = .ok (.iload_n 1, 1) := by decide +kernel
theorem dX10_reachOf_5 : decode cX10_reachOf 5 = .ok (.aload_n 0, 1) := by decide +kernel
theorem dX10_reachOf_6 : decode cX10_reachOf 6 = .ok (.getfield 9, 3) := by decide +kernel
theorem dX10_reachOf_9 : decode cX10_reachOf 9 = .ok (.arraylength, 1) := by decide +kernel
theorem dX10_reachOf_10 : decode cX10_reachOf 10 = .ok (.if_icmp .ge 12, 3) := by decide +kernel
theorem dX10_reachOf_13 : decode cX10_reachOf 13 = .ok (.aload_n 0, 1) := by decide +kernel
theorem dX10_reachOf_14 : decode cX10_reachOf 14 = .ok (.getfield 9, 3) := by decide +kernel
theorem dX10_reachOf_17 : decode cX10_reachOf 17 = .ok (.iload_n 1, 1) := by decide +kernel
theorem dX10_reachOf_18 : decode cX10_reachOf 18 = .ok (.iaload, 1) := by decide +kernel
theorem dX10_reachOf_19 : decode cX10_reachOf 19 = .ok (.goto 4, 3) := by decide +kernel
theorem dX10_reachOf_22 : decode cX10_reachOf 22 = .ok (.iconst 0, 1) := by decide +kernel
theorem dX10_reachOf_23 : decode cX10_reachOf 23 = .ok (.ireturn, 1) := by decide +kernel
theorem dX11_addShift_0 : decode cX11_addShift 0 = .ok (.aload_n 0, 1) := by decide +kernel
theorem dX11_addShift_1 : decode cX11_addShift 1 = .ok (.getfield 397, 3) := by decide +kernel
theorem dX11_addShift_4 : decode cX11_addShift 4 = .ok (.istore_n 2, 1) := by decide +kernel
theorem dX11_addShift_5 : decode cX11_addShift 5 = .ok (.iload_n 2, 1) := by decide +kernel
theorem dX11_addShift_6 : decode cX11_addShift 6 = .ok (.ifCond .lt 29, 3) := by decide +kernel
theorem dX11_addShift_9 : decode cX11_addShift 9 = .ok (.iload_n 2, 1) := by decide +kernel
theorem dX11_addShift_10 : decode cX11_addShift 10 = .ok (.aload_n 0, 1) := by decide +kernel
theorem dX11_addShift_11 : decode cX11_addShift 11 = .ok (.getfield 18, 3) := by decide +kernel
theorem dX11_addShift_14 : decode cX11_addShift 14 = .ok (.arraylength, 1) := by decide +kernel
theorem dX11_addShift_15 : decode cX11_addShift 15 = .ok (.if_icmp .ge 20, 3) := by decide +kernel
theorem dX11_addShift_18 : decode cX11_addShift 18 = .ok (.aload_n 0, 1) := by decide +kernel
theorem dX11_addShift_19 : decode cX11_addShift 19 = .ok (.getfield 18, 3) := by decide +kernel
theorem dX11_addShift_22 : decode cX11_addShift 22 = .ok (.iload_n 2, 1) := by decide +kernel
theorem dX11_addShift_23 : decode cX11_addShift 23 = .ok (.aload_n 1, 1) := by decide +kernel
theorem dX11_addShift_24 : decode cX11_addShift 24 = .ok (.aastore, 1) := by decide +kernel
theorem dX11_addShift_25 : decode cX11_addShift 25 = .ok (.aload_n 0, 1) := by decide +kernel
theorem dX11_addShift_26 : decode cX11_addShift 26 = .ok (.dup, 1) := by decide +kernel
theorem dX11_addShift_27 : decode cX11_addShift 27 = .ok (.getfield 397, 3) := by decide +kernel
theorem dX11_addShift_30 : decode cX11_addShift 30 = .ok (.iconst 1, 1) := by decide +kernel
theorem dX11_addShift_31 : decode cX11_addShift 31 = .ok (.iadd, 1) := by decide +kernel
theorem dX11_addShift_32 : decode cX11_addShift 32 = .ok (.putfield 397, 3) := by decide +kernel
theorem dX11_addShift_35 : decode cX11_addShift 35 = .ok (.iload_n 2, 1) := by decide +kernel
theorem dX11_addShift_36 : decode cX11_addShift 36 = .ok (.ireturn, 1) := by decide +kernel
theorem dX11_areSame_0 : decode cX11_areSame 0 = .ok (.aload_n 0, 1) := by decide +kernel
theorem dX11_areSame_1 : decode cX11_areSame 1 = .ok (.iload_n 1, 1) := by decide +kernel
theorem dX11_areSame_2 : decode cX11_areSame 2 = .ok (.invokevirtual 110, 3) := by decide +kernel
theorem dX11_areSame_5 : decode cX11_areSame 5 = .ok (.astore_n 3, 1) := by decide +kernel
theorem dX11_areSame_6 : decode cX11_areSame 6 = .ok (.aload_n 0, 1) := by decide +kernel
theorem dX11_areSame_7 : decode cX11_areSame 7 = .ok (.iload_n 2, 1) := by decide +kernel
theorem dX11_areSame_8 : decode cX11_areSame 8 = .ok (.invokevirtual 110, 3) := by decide +kernel
theorem dX11_areSame_11 : decode cX11_areSame 11 = .ok (.astore 4, 2) := by decide +kernel
theorem dX11_areSame_13 : decode cX11_areSame 13 = .ok (.aload_n 3, 1) := by decide +kernel
theorem dX11_areSame_14 : decode cX11_areSame 14 = .ok (.getfield 170, 3) := by decide +kernel
theorem dX11_areSame_17 : decode cX11_areSame 17 = .ok (.aload 4, 2) := by decide +kernel
theorem dX11_areSame_19 : decode cX11_areSame 19 = .ok (.getfield 170, 3) := by decide +kernel
theorem dX11_areSame_22 : decode cX11_areSame 22 = .ok (.if_icmp .eq 13, 3) := by decide +kernel
theorem dX11_areSame_25 : decode cX11_areSame 25 = .ok (.new 142, 3) := by decide +kernel
theorem dX11_areSame_28 : decode cX11_areSame 28 = .ok (.dup, 1) := by decide +kernel
theorem dX11_areSame_29 : decode cX11_areSame 29 = .ok (.ldc 211, 2) := by decide +kernel
theorem dX11_areSame_31 : decode cX11_areSame 31 = .ok (.invokespecial 146, 3) := by decide +kernel
theorem dX11_areSame_34 : decode cX11_areSame 34 = .ok (.athrow, 1) := by decide +kernel
theorem dX11_areSame_35 : decode cX11_areSame 35 = .ok (.aload_n 0, 1) := by decide +kernel
theorem dX11_areSame_36 : decode cX11_areSame 36 = .ok (.getfield 37, 3) := by decide +kernel
theorem dX11_areSame_39 : decode cX11_areSame 39 = .ok (.aload_n 3, 1) := by decide +kernel
theorem dX11_areSame_40 : decode cX11_areSame 40 = .ok (.aload 4, 2) := by decide +kernel
theorem dX11_areSame_42 : decode cX11_areSame 42 = .ok (.invokevirtual 213, 3) := by decide +kernel
theorem dX11_areSame_45 : decode cX11_areSame 45 = .ok (.istore 5, 2) := by decide +kernel
theorem dX11_areSame_47 : decode cX11_areSame 47 = .ok (.iload 5, 2) := by decide +kernel
theorem dX11_areSame_49 : decode cX11_areSame 49 = .ok (.ifCond .ge 13, 3) := by decide +kernel
theorem dX11_areSame_52 : decode cX11_areSame 52 = .ok (.new 142, 3) := by decide +kernel
theorem dX11_areSame_55 : decode cX11_areSame 55 = .ok (.dup, 1) := by decide +kernel
theorem dX11_areSame_56 : decode cX11_areSame 56 = .ok (.ldc 217, 2) := by decide +kernel
theorem dX11_areSame_58 : decode cX11_areSame 58 = .ok (.invokespecial 146, 3) := by decide +kernel
theorem dX11_areSame_61 : decode cX11_areSame 61 = .ok (.athrow, 1) := by decide +kernel
theorem dX11_areSame_62 : decode cX11_areSame 62 = .ok (.iload 5, 2) := by decide +kernel
theorem dX11_areSame_64 : decode cX11_areSame 64 = .ok (.iconst 1, 1) := by decide +kernel
theorem dX11_areSame_65 : decode cX11_areSame 65 = .ok (.if_icmp .ne 7, 3) := by decide +kernel
theorem dX11_areSame_68 : decode cX11_areSame 68 = .ok (.iconst 1, 1) := by decide +kernel
theorem dX11_areSame_69 : decode cX11_areSame 69 = .ok (.goto 4, 3) := by decide +kernel
theorem dX11_areSame_72 : decode cX11_areSame 72 = .ok (.iconst 0, 1) := by decide +kernel
theorem dX11_areSame_73 : decode cX11_areSame 73 = .ok (.ireturn, 1) := by decide +kernel
theorem dX11_becomes_0 : decode cX11_becomes 0 = .ok (.iload_n 1, 1) := by decide +kernel
theorem dX11_becomes_1 : decode cX11_becomes 1 = .ok (.invokestatic 114, 3) := by decide +kernel
theorem dX11_becomes_4 : decode cX11_becomes 4 = .ok (.istore_n 2, 1) := by decide +kernel
theorem dX11_becomes_5 : decode cX11_becomes 5 = .ok (.iload_n 2, 1) := by decide +kernel
theorem dX11_becomes_6 : decode cX11_becomes 6 = .ok (.ifCond .ge 13, 3) := by decide +kernel
theorem dX11_becomes_9 : decode cX11_becomes 9 = .ok (.new 73, 3) := by decide +kernel
theorem dX11_becomes_12 : decode cX11_becomes 12 = .ok (.dup, 1) := by decide +kernel
theorem dX11_becomes_13 : decode cX11_becomes 13 = .ok (.ldc 244, 2) := by decide +kernel
theorem dX11_becomes_15 : decode cX11_becomes 15 = .ok (.invokespecial 77, 3) := by decide +kernel
theorem dX11_becomes_18 : decode cX11_becomes 18 = .ok (.athrow, 1) := by decide +kernel
theorem dX11_becomes_19 : decode cX11_becomes 19 = .ok (.aload_n 0, 1) := by decide +kernel
theorem dX11_becomes_20 : decode cX11_becomes 20 = .ok (.getfield 10, 3) := by decide +kernel
theorem dX11_becomes_23 : decode cX11_becomes 23 = .ok (.getfield 80, 3) := by decide +kernel
theorem dX11_becomes_26 : decode cX11_becomes 26 = .ok (.iconst 1, 1) := by decide +kernel
theorem dX11_becomes_27 : decode cX11_becomes 27 = .ok (.if_icmp .lt 25, 3) := by decide +kernel
theorem dX11_becomes_30 : decode cX11_becomes 30 = .ok (.aload_n 0, 1) := by decide +kernel
theorem dX11_becomes_31 : decode cX11_becomes 31 = .ok (.getfield 10, 3) := by decide +kernel
theorem dX11_becomes_34 : decode cX11_becomes 34 = .ok (.getfield 80, 3) := by decide +kernel
theorem dX11_becomes_37 : decode cX11_becomes 37 = .ok (.iconst 4, 1) := by decide +kernel
theorem dX11_becomes_38 : decode cX11_becomes 38 = .ok (.if_icmp .gt 14, 3) := by decide +kernel
theorem dX11_becomes_41 : decode cX11_becomes 41 = .ok (.aload_n 0, 1) := by decide +kernel
theorem dX11_becomes_42 : decode cX11_becomes 42 = .ok (.getfield 10, 3) := by decide +kernel
theorem dX11_becomes_45 : decode cX11_becomes 45 = .ok (.iconst 3, 1) := by decide +kernel
theorem dX11_becomes_46 : decode cX11_becomes 46 = .ok (.invokevirtual 173, 3) := by decide +kernel
theorem dX11_becomes_49 : decode cX11_becomes 49 = .ok (.ifCond .ne 14, 3) := by decide +kernel
theorem dX11_becomes_52 : decode cX11_becomes 52 = .ok (.new 142, 3) := by decide +kernel
theorem dX11_becomes_55 : decode cX11_becomes 55 = .ok (.dup, 1) := by decide +kernel
theorem dX11_becomes_56 : decode cX11_becomes 56 = .ok (.ldc_w 385, 3) := by decide +kernel
theorem dX11_becomes_59 : decode cX11_becomes 59 = .ok (.invokespecial 146, 3) := by decide +kernel
theorem dX11_becomes_62 : decode cX11_becomes 62 = .ok (.athrow, 1) := by decide +kernel
theorem dX11_becomes_63 : decode cX11_becomes 63 = .ok (.aload_n 0, 1) := by decide +kernel
theorem dX11_becomes_64 : decode cX11_becomes 64 = .ok (.getfield 65, 3) := by decide +kernel
theorem dX11_becomes_67 : decode cX11_becomes 67 = .ok (.iload_n 2, 1) := by decide +kernel
theorem dX11_becomes_68 : decode cX11_becomes 68 = .ok (.invokevirtual 387, 3) := by decide +kernel
theorem dX11_becomes_71 : decode cX11_becomes 71 = .ok (.istore_n 3, 1) := by decide +kernel
theorem dX11_becomes_72 : decode cX11_becomes 72 = .ok (.aload_n 0, 1) := by decide +kernel
theorem dX11_becomes_73 : decode cX11_becomes 73 = .ok (.getfield 65, 3) := by decide +kernel
theorem dX11_becomes_76 : decode cX11_becomes 76 = .ok (.iload_n 2, 1) := by decide +kernel
theorem dX11_becomes_77 : decode cX11_becomes 77 = .ok (.aload_n 0, 1) := by decide +kernel
theorem dX11_becomes_78 : decode cX11_becomes 78 = .ok (.getfield 10, 3) := by decide +kernel
theorem dX11_becomes_81 : decode cX11_becomes 81 = .ok (.invokevirtual 390, 3) := by decide +kernel
theorem dX11_becomes_84 : decode cX11_becomes 84 = .ok (.aload_n 0, 1) := by decide +kernel
theorem dX11_becomes_85 : decode cX11_becomes 85 = .ok (.getfield 10, 3) := by decide +kernel
theorem dX11_becomes_88 : decode cX11_becomes 88 = .ok (.invokevirtual 93, 3) := by decide +kernel
theorem dX11_becomes_91 : decode cX11_becomes 91 = .ok (.iload_n 3, 1) := by decide +kernel
theorem dX11_becomes_92 : decode cX11_becomes 92 = .ok (.ireturn, 1) := by decide +kernel
theorem dX11_checksum_0 : decode cX11_checksum 0 = .ok (.lconst 0, 1) := by decide +kernel
theorem dX11_checksum_1 : decode cX11_checksum 1 = .ok (.lstore_n 1, 1) := by decide +kernel
theorem dX11_checksum_2 : decode cX11_checksum 2 = .ok (.iconst 0, 1) := by decide +kernel
theorem dX11_checksum_3 : decode cX11_checksum 3 = .ok (.istore_n 3, 1) := by decide +kernel
theorem dX11_checksum_4 : decode cX11_checksum 4 = .ok (.iload_n 3, 1) := by decide +kernel
theorem dX11_checksum_5 : decode cX11_checksum 5 = .ok (.aload_n 0, 1) := by decide +kernel
theorem dX11_checksum_6 : decode cX11_checksum 6 = .ok (.getfield 397, 3) := by decide +kernel
theorem dX11_checksum_9 : decode cX11_checksum 9 = .ok (.if_icmp .ge 47, 3) := by decide +kernel
theorem dX11_checksum_12 : decode cX11_checksum 12 = .ok (.aload_n 0, 1) := by decide +kernel
theorem dX11_checksum_13 : decode cX11_checksum 13 = .ok (.iload_n 3, 1) := by decide +kernel
theorem dX11_checksum_14 : decode cX11_checksum 14 = .ok (.invokevirtual 400, 3) := by decide +kernel
theorem dX11_checksum_17 : decode cX11_checksum 17 = .ok (.astore 4, 2) := by decide +kernel
theorem dX11_checksum_19 : decode cX11_checksum 19 = .ok (.aload 4, 2) := by decide +kernel
theorem dX11_checksum_21 : decode cX11_checksum 21 = .ok (.ifnull 29, 3) := by decide +kernel
theorem dX11_checksum_24 : decode cX11_checksum 24 = .ok (.ldc2_w 403, 3) := by decide +kernel
theorem dX11_checksum_27 : decode cX11_checksum 27 = .ok (.lload_n 1, 1) := by decide +kernel
theorem dX11_checksum_28 : decode cX11_checksum 28 = .ok (.lmul, 1) := by decide +kernel
theorem dX11_checksum_29 : decode cX11_checksum 29 = .ok (.aload 4, 2) := by decide +kernel
theorem dX11_checksum_31 : decode cX11_checksum 31 = .ok (.invokevirtual 156, 3) := by decide +kernel
theorem dX11_checksum_34 : decode cX11_checksum 34 = .ok (.invokestatic 160, 3) := by decide +kernel
theorem dX11_checksum_37 : decode cX11_checksum 37 = .ok (.i2l, 1) := by decide +kernel
theorem dX11_checksum_38 : decode cX11_checksum 38 = .ok (.ladd, 1) := by decide +kernel
theorem dX11_checksum_39 : decode cX11_checksum 39 = .ok (.bipush 7, 2) := by decide +kernel
theorem dX11_checksum_41 : decode cX11_checksum 41 = .ok (.aload 4, 2) := by decide +kernel
theorem dX11_checksum_43 : decode cX11_checksum 43 = .ok (.invokevirtual 405, 3) := by decide +kernel
theorem dX11_checksum_46 : decode cX11_checksum 46 = .ok (.imul, 1) := by decide +kernel
theorem dX11_checksum_47 : decode cX11_checksum 47 = .ok (.i2l, 1) := by decide +kernel
theorem dX11_checksum_48 : decode cX11_checksum 48 = .ok (.ladd, 1) := by decide +kernel
theorem dX11_checksum_49 : decode cX11_checksum 49 = .ok (.lstore_n 1, 1) := by decide +kernel
theorem dX11_checksum_50 : decode cX11_checksum 50 = .ok (.iinc 3 1, 3) := by decide +kernel
theorem dX11_checksum_53 : decode cX11_checksum 53 = .ok (.goto (-49), 3) := by decide +kernel
theorem dX11_checksum_56 : decode cX11_checksum 56 = .ok (.lload_n 1, 1) := by decide +kernel
theorem dX11_checksum_57 : decode cX11_checksum 57 = .ok (.lreturn, 1) := by decide +kernel
theorem dX11_clear_0 : decode cX11_clear 0 = .ok (.aload_n 0, 1) := by decide +kernel
theorem dX11_clear_1 : decode cX11_clear 1 = .ok (.getfield 10, 3) := by decide +kernel
theorem dX11_clear_4 : decode cX11_clear 4 = .ok (.getfield 80, 3) := by decide +kernel
theorem dX11_clear_7 : decode cX11_clear 7 = .ok (.istore_n 1, 1) := by decide +kernel
theorem dX11_clear_8 : decode cX11_clear 8 = .ok (.aload_n 0, 1) := by decide +kernel
theorem dX11_clear_9 : decode cX11_clear 9 = .ok (.getfield 10, 3) := by decide +kernel
theorem dX11_clear_12 : decode cX11_clear 12 = .ok (.invokevirtual 93, 3) := by decide +kernel
theorem dX11_clear_15 : decode cX11_clear 15 = .ok (.iload_n 1, 1) := by decide +kernel
theorem dX11_clear_16 : decode cX11_clear 16 = .ok (.ireturn, 1) := by decide +kernel
theorem dX11_code_0 : decode cX11_code 0 = .ok (.iload_n 1, 1) := by decide +kernel
theorem dX11_code_1 : decode cX11_code 1 = .ok (.iconst 2, 1) := by decide +kernel
theorem dX11_code_2 : decode cX11_code 2 = .ok (.iconst 3, 1) := by decide +kernel
theorem dX11_code_3 : decode cX11_code 3 = .ok (.invokestatic 96, 3) := by decide +kernel
theorem dX11_code_6 : decode cX11_code 6 = .ok (.aload_n 0, 1) := by decide +kernel
theorem dX11_code_7 : decode cX11_code 7 = .ok (.getfield 231, 3) := by decide +kernel
theorem dX11_code_10 : decode cX11_code 10 = .ok (.ifCond .lt 15, 3) := by decide +kernel
theorem dX11_code_13 : decode cX11_code 13 = .ok (.aload_n 0, 1) := by decide +kernel
theorem dX11_code_14 : decode cX11_code 14 = .ok (.getfield 231, 3) := by decide +kernel
theorem dX11_code_17 : decode cX11_code 17 = .ok (.aload_n 0, 1) := by decide +kernel
theorem dX11_code_18 : decode cX11_code 18 = .ok (.getfield 24, 3) := by decide +kernel
theorem dX11_code_21 : decode cX11_code 21 = .ok (.arraylength, 1) := by decide +kernel
theorem dX11_code_22 : decode cX11_code 22 = .ok (.if_icmp .lt 13, 3) := by decide +kernel
theorem dX11_code_25 : decode cX11_code 25 = .ok (.new 84, 3) := by decide +kernel
theorem dX11_code_28 : decode cX11_code 28 = .ok (.dup, 1) := by decide +kernel
theorem dX11_code_29 : decode cX11_code 29 = .ok (.ldc 234, 2) := by decide +kernel
theorem dX11_code_31 : decode cX11_code 31 = .ok (.invokespecial 88, 3) := by decide +kernel
theorem dX11_code_34 : decode cX11_code 34 = .ok (.athrow, 1) := by decide +kernel
theorem dX11_code_35 : decode cX11_code 35 = .ok (.aload_n 0, 1) := by decide +kernel
theorem dX11_code_36 : decode cX11_code 36 = .ok (.getfield 24, 3) := by decide +kernel
theorem dX11_code_39 : decode cX11_code 39 = .ok (.aload_n 0, 1) := by decide +kernel
theorem dX11_code_40 : decode cX11_code 40 = .ok (.getfield 231, 3) := by decide +kernel
theorem dX11_code_43 : decode cX11_code 43 = .ok (.new 22, 3) := by decide +kernel
theorem dX11_code_46 : decode cX11_code 46 = .ok (.dup, 1) := by decide +kernel
theorem dX11_code_47 : decode cX11_code 47 = .ok (.iload_n 1, 1) := by decide +kernel
theorem dX11_code_48 : decode cX11_code 48 = .ok (.invokespecial 236, 3) := by decide +kernel
theorem dX11_code_51 : decode cX11_code 51 = .ok (.aastore, 1) := by decide +kernel
theorem dX11_code_52 : decode cX11_code 52 = .ok (.aload_n 0, 1) := by decide +kernel
theorem dX11_code_53 : decode cX11_code 53 = .ok (.dup, 1) := by decide +kernel
theorem dX11_code_54 : decode cX11_code 54 = .ok (.getfield 231, 3) := by decide +kernel
theorem dX11_code_57 : decode cX11_code 57 = .ok (.iconst 1, 1) := by decide +kernel
theorem dX11_code_58 : decode cX11_code 58 = .ok (.iadd, 1) := by decide +kernel
theorem dX11_code_59 : decode cX11_code 59 = .ok (.putfield 231, 3) := by decide +kernel
theorem dX11_code_62 : decode cX11_code 62 = .ok (.aload_n 0, 1) := by decide +kernel
theorem dX11_code_63 : decode cX11_code 63 = .ok (.getfield 231, 3) := by decide +kernel
theorem dX11_code_66 : decode cX11_code 66 = .ok (.iconst 1, 1) := by decide +kernel
theorem dX11_code_67 : decode cX11_code 67 = .ok (.isub, 1) := by decide +kernel
theorem dX11_code_68 : decode cX11_code 68 = .ok (.ireturn, 1) := by decide +kernel
theorem dX11_codeAt_0 : decode cX11_codeAt 0 = .ok (.iload_n 1, 1) := by decide +kernel
theorem dX11_codeAt_1 : decode cX11_codeAt 1 = .ok (.ifCond .lt 29, 3) := by decide +kernel
theorem dX11_codeAt_4 : decode cX11_codeAt 4 = .ok (.iload_n 1, 1) := by decide +kernel
theorem dX11_codeAt_5 : decode cX11_codeAt 5 = .ok (.aload_n 0, 1) := by decide +kernel
theorem dX11_codeAt_6 : decode cX11_codeAt 6 = .ok (.getfield 231, 3) := by decide +kernel
theorem dX11_codeAt_9 : decode cX11_codeAt 9 = .ok (.if_icmp .ge 21, 3) := by decide +kernel
theorem dX11_codeAt_12 : decode cX11_codeAt 12 = .ok (.iload_n 1, 1) := by decide +kernel
theorem dX11_codeAt_13 : decode cX11_codeAt 13 = .ok (.aload_n 0, 1) := by decide +kernel
theorem dX11_codeAt_14 : decode cX11_codeAt 14 = .ok (.getfield 24, 3) := by decide +kernel
theorem dX11_codeAt_17 : decode cX11_codeAt 17 = .ok (.arraylength, 1) := by decide +kernel
theorem dX11_codeAt_18 : decode cX11_codeAt 18 = .ok (.if_icmp .ge 12, 3) := by decide +kernel
theorem dX11_codeAt_21 : decode cX11_codeAt 21 = .ok (.aload_n 0, 1) := by decide +kernel
theorem dX11_codeAt_22 : decode cX11_codeAt 22 = .ok (.getfield 24, 3) := by decide +kernel
theorem dX11_codeAt_25 : decode cX11_codeAt 25 = .ok (.iload_n 1, 1) := by decide +kernel
theorem dX11_codeAt_26 : decode cX11_codeAt 26 = .ok (.aaload, 1) := by decide +kernel
theorem dX11_codeAt_27 : decode cX11_codeAt 27 = .ok (.goto 4, 3) := by decide +kernel
theorem dX11_codeAt_30 : decode cX11_codeAt 30 = .ok (.aconst_null, 1) := by decide +kernel
theorem dX11_codeAt_31 : decode cX11_codeAt 31 = .ok (.astore_n 2, 1) := by decide +kernel
theorem dX11_codeAt_32 : decode cX11_codeAt 32 = .ok (.aload_n 2, 1) := by decide +kernel
theorem dX11_codeAt_33 : decode cX11_codeAt 33 = .ok (.ifnonnull 14, 3) := by decide +kernel
theorem dX11_codeAt_36 : decode cX11_codeAt 36 = .ok (.new 424, 3) := by decide +kernel
theorem dX11_codeAt_39 : decode cX11_codeAt 39 = .ok (.dup, 1) := by decide +kernel
theorem dX11_codeAt_40 : decode cX11_codeAt 40 = .ok (.ldc_w 429, 3) := by decide +kernel
theorem dX11_codeAt_43 : decode cX11_codeAt 43 = .ok (.invokespecial 428, 3) := by decide +kernel
theorem dX11_codeAt_46 : decode cX11_codeAt 46 = .ok (.athrow, 1) := by decide +kernel
theorem dX11_codeAt_47 : decode cX11_codeAt 47 = .ok (.aload_n 2, 1) := by decide +kernel
theorem dX11_codeAt_48 : decode cX11_codeAt 48 = .ok (.areturn, 1) := by decide +kernel
theorem dX11_complexity_0 : decode cX11_complexity 0 = .ok (.iload_n 1, 1) := by decide +kernel
theorem dX11_complexity_1 : decode cX11_complexity 1 = .ok (.iconst 1, 1) := by decide +kernel
theorem dX11_complexity_2 : decode cX11_complexity 2 = .ok (.bipush 8, 2) := by decide +kernel
theorem dX11_complexity_4 : decode cX11_complexity 4 = .ok (.invokestatic 96, 3) := by decide +kernel
theorem dX11_complexity_7 : decode cX11_complexity 7 = .ok (.aload_n 0, 1) := by decide +kernel
theorem dX11_complexity_8 : decode cX11_complexity 8 = .ok (.getfield 65, 3) := by decide +kernel
theorem dX11_complexity_11 : decode cX11_complexity 11 = .ok (.iload_n 1, 1) := by decide +kernel
theorem dX11_complexity_12 : decode cX11_complexity 12 = .ok (.invokevirtual 394, 3) := by decide +kernel
theorem dX11_complexity_15 : decode cX11_complexity 15 = .ok (.ireturn, 1) := by decide +kernel
theorem dX11_demandCell_0 : decode cX11_demandCell 0 = .ok (.iload_n 1, 1) := by decide +kernel
theorem dX11_demandCell_1 : decode cX11_demandCell 1 = .ok (.ifCond .lt 23, 3) := by decide +kernel
theorem dX11_demandCell_4 : decode cX11_demandCell 4 = .ok (.iload_n 1, 1) := by decide +kernel
theorem dX11_demandCell_5 : decode cX11_demandCell 5 = .ok (.aload_n 0, 1) := by decide +kernel
theorem dX11_demandCell_6 : decode cX11_demandCell 6 = .ok (.getfield 309, 3) := by decide +kernel
theorem dX11_demandCell_9 : decode cX11_demandCell 9 = .ok (.if_icmp .ge 15, 3) := by decide +kernel
theorem dX11_demandCell_12 : decode cX11_demandCell 12 = .ok (.iload_n 2, 1) := by decide +kernel
theorem dX11_demandCell_13 : decode cX11_demandCell 13 = .ok (.ifCond .lt 11, 3) := by decide +kernel
theorem dX11_demandCell_16 : decode cX11_demandCell 16 = .ok (.iload_n 2, 1) := by decide +kernel
theorem dX11_demandCell_17 : decode cX11_demandCell 17 = .ok (.aload_n 0, 1) := by decide +kernel
theorem dX11_demandCell_18 : decode cX11_demandCell 18 = .ok (.getfield 437, 3) := by decide +kernel
theorem dX11_demandCell_21 : decode cX11_demandCell 21 = .ok (.if_icmp .lt 14, 3) := by decide +kernel
theorem dX11_demandCell_24 : decode cX11_demandCell 24 = .ok (.new 424, 3) := by decide +kernel
theorem dX11_demandCell_27 : decode cX11_demandCell 27 = .ok (.dup, 1) := by decide +kernel
theorem dX11_demandCell_28 : decode cX11_demandCell 28 = .ok (.ldc_w 440, 3) := by decide +kernel
theorem dX11_demandCell_31 : decode cX11_demandCell 31 = .ok (.invokespecial 428, 3) := by decide +kernel
theorem dX11_demandCell_34 : decode cX11_demandCell 34 = .ok (.athrow, 1) := by decide +kernel
theorem dX11_demandCell_35 : decode cX11_demandCell 35 = .ok (.return_, 1) := by decide +kernel
theorem dX11_demandRange_0 : decode cX11_demandRange 0 = .ok (.iload_n 0, 1) := by decide +kernel
theorem dX11_demandRange_1 : decode cX11_demandRange 1 = .ok (.iload_n 1, 1) := by decide +kernel
theorem dX11_demandRange_2 : decode cX11_demandRange 2 = .ok (.if_icmp .lt 8, 3) := by decide +kernel
theorem dX11_demandRange_5 : decode cX11_demandRange 5 = .ok (.iload_n 0, 1) := by decide +kernel
theorem dX11_demandRange_6 : decode cX11_demandRange 6 = .ok (.iload_n 2, 1) := by decide +kernel
theorem dX11_demandRange_7 : decode cX11_demandRange 7 = .ok (.if_icmp .le 14, 3) := by decide +kernel
theorem dX11_demandRange_10 : decode cX11_demandRange 10 = .ok (.new 73, 3) := by decide +kernel
theorem dX11_demandRange_13 : decode cX11_demandRange 13 = .ok (.dup, 1) := by decide +kernel
theorem dX11_demandRange_14 : decode cX11_demandRange 14 = .ok (.ldc_w 435, 3) := by decide +kernel
theorem dX11_demandRange_17 : decode cX11_demandRange 17 = .ok (.invokespecial 77, 3) := by decide +kernel
theorem dX11_demandRange_20 : decode cX11_demandRange 20 = .ok (.athrow, 1) := by decide +kernel
theorem dX11_demandRange_21 : decode cX11_demandRange 21 = .ok (.return_, 1) := by decide +kernel
theorem dX11_demandRoomForShift_0 : decode cX11_demandRoomForShift 0 = .ok (.aload_n 0, 1) := by decide +kernel
theorem dX11_demandRoomForShift_1 : decode cX11_demandRoomForShift 1 = .ok (.getfield 397, 3) := by decide +kernel
theorem dX11_demandRoomForShift_4 : decode cX11_demandRoomForShift 4 = .ok (.ifCond .lt 15, 3) := by decide +kernel
theorem dX11_demandRoomForShift_7 : decode cX11_demandRoomForShift 7 = .ok (.aload_n 0, 1) := by decide +kernel
theorem dX11_demandRoomForShift_8 : decode cX11_demandRoomForShift 8 = .ok (.getfield 397, 3) := by decide +kernel
theorem dX11_demandRoomForShift_11 : decode cX11_demandRoomForShift 11 = .ok (.aload_n 0, 1) := by decide +kernel
theorem dX11_demandRoomForShift_12 : decode cX11_demandRoomForShift 12 = .ok (.getfield 18, 3) := by decide +kernel
theorem dX11_demandRoomForShift_15 : decode cX11_demandRoomForShift 15 = .ok (.arraylength, 1) := by decide +kernel
theorem dX11_demandRoomForShift_16 : decode cX11_demandRoomForShift 16 = .ok (.if_icmp .lt 14, 3) := by decide +kernel
theorem dX11_demandRoomForShift_19 : decode cX11_demandRoomForShift 19 = .ok (.new 84, 3) := by decide +kernel
theorem dX11_demandRoomForShift_22 : decode cX11_demandRoomForShift 22 = .ok (.dup, 1) := by decide +kernel
theorem dX11_demandRoomForShift_23 : decode cX11_demandRoomForShift 23 = .ok (.ldc_w 433, 3) := by decide +kernel
theorem dX11_demandRoomForShift_26 : decode cX11_demandRoomForShift 26 = .ok (.invokespecial 88, 3) := by decide +kernel
theorem dX11_demandRoomForShift_29 : decode cX11_demandRoomForShift 29 = .ok (.athrow, 1) := by decide +kernel
theorem dX11_demandRoomForShift_30 : decode cX11_demandRoomForShift 30 = .ok (.return_, 1) := by decide +kernel
theorem dX11_demandSquare_0 : decode cX11_demandSquare 0 = .ok (.aload_n 0, 1) := by decide +kernel
theorem dX11_demandSquare_1 : decode cX11_demandSquare 1 = .ok (.getfield 309, 3) := by decide +kernel
theorem dX11_demandSquare_4 : decode cX11_demandSquare 4 = .ok (.aload_n 0, 1) := by decide +kernel
theorem dX11_demandSquare_5 : decode cX11_demandSquare 5 = .ok (.getfield 437, 3) := by decide +kernel
theorem dX11_demandSquare_8 : decode cX11_demandSquare 8 = .ok (.if_icmp .eq 14, 3) := by decide +kernel
theorem dX11_demandSquare_11 : decode cX11_demandSquare 11 = .ok (.new 142, 3) := by decide +kernel
theorem dX11_demandSquare_14 : decode cX11_demandSquare 14 = .ok (.dup, 1) := by decide +kernel
theorem dX11_demandSquare_15 : decode cX11_demandSquare 15 = .ok (.ldc_w 442, 3) := by decide +kernel
theorem dX11_demandSquare_18 : decode cX11_demandSquare 18 = .ok (.invokespecial 146, 3) := by decide +kernel
theorem dX11_demandSquare_21 : decode cX11_demandSquare 21 = .ok (.athrow, 1) := by decide +kernel
theorem dX11_demandSquare_22 : decode cX11_demandSquare 22 = .ok (.return_, 1) := by decide +kernel
theorem dX11_edge_0 : decode cX11_edge 0 = .ok (.aload_n 0, 1) := by decide +kernel
theorem dX11_edge_1 : decode cX11_edge 1 = .ok (.iload_n 1, 1) := by decide +kernel
theorem dX11_edge_2 : decode cX11_edge 2 = .ok (.invokevirtual 110, 3) := by decide +kernel
theorem dX11_edge_5 : decode cX11_edge 5 = .ok (.astore 6, 2) := by decide +kernel
theorem dX11_edge_7 : decode cX11_edge 7 = .ok (.iload_n 3, 1) := by decide +kernel
theorem dX11_edge_8 : decode cX11_edge 8 = .ok (.invokestatic 114, 3) := by decide +kernel
theorem dX11_edge_11 : decode cX11_edge 11 = .ok (.istore 7, 2) := by decide +kernel
theorem dX11_edge_13 : decode cX11_edge 13 = .ok (.aload 6, 2) := by decide +kernel
theorem dX11_edge_15 : decode cX11_edge 15 = .ok (.iload 7, 2) := by decide +kernel
theorem dX11_edge_17 : decode cX11_edge 17 = .ok (.invokevirtual 118, 3) := by decide +kernel
theorem dX11_edge_20 : decode cX11_edge 20 = .ok (.ifCond .eq 22, 3) := by decide +kernel
theorem dX11_edge_23 : decode cX11_edge 23 = .ok (.aload 6, 2) := by decide +kernel
theorem dX11_edge_25 : decode cX11_edge 25 = .ok (.iload_n 2, 1) := by decide +kernel
theorem dX11_edge_26 : decode cX11_edge 26 = .ok (.invokevirtual 122, 3) := by decide +kernel
theorem dX11_edge_29 : decode cX11_edge 29 = .ok (.ifCond .eq 13, 3) := by decide +kernel
theorem dX11_edge_32 : decode cX11_edge 32 = .ok (.aload 6, 2) := by decide +kernel
theorem dX11_edge_34 : decode cX11_edge 34 = .ok (.iload 4, 2) := by decide +kernel
theorem dX11_edge_36 : decode cX11_edge 36 = .ok (.invokevirtual 122, 3) := by decide +kernel
theorem dX11_edge_39 : decode cX11_edge 39 = .ok (.ifCond .ne 13, 3) := by decide +kernel
theorem dX11_edge_42 : decode cX11_edge 42 = .ok (.new 73, 3) := by decide +kernel
theorem dX11_edge_45 : decode cX11_edge 45 = .ok (.dup, 1) := by decide +kernel
theorem dX11_edge_46 : decode cX11_edge 46 = .ok (.ldc 125, 2) := by decide +kernel
theorem dX11_edge_48 : decode cX11_edge 48 = .ok (.invokespecial 77, 3) := by decide +kernel
theorem dX11_edge_51 : decode cX11_edge 51 = .ok (.athrow, 1) := by decide +kernel
theorem dX11_edge_52 : decode cX11_edge 52 = .ok (.aload 6, 2) := by decide +kernel
theorem dX11_edge_54 : decode cX11_edge 54 = .ok (.iload_n 2, 1) := by decide +kernel
theorem dX11_edge_55 : decode cX11_edge 55 = .ok (.iload 7, 2) := by decide +kernel
theorem dX11_edge_57 : decode cX11_edge 57 = .ok (.invokevirtual 127, 3) := by decide +kernel
theorem dX11_edge_60 : decode cX11_edge 60 = .ok (.iload 4, 2) := by decide +kernel
theorem dX11_edge_62 : decode cX11_edge 62 = .ok (.invokestatic 131, 3) := by decide +kernel
theorem dX11_edge_65 : decode cX11_edge 65 = .ok (.istore 8, 2) := by decide +kernel
theorem dX11_edge_67 : decode cX11_edge 67 = .ok (.aload 6, 2) := by decide +kernel
theorem dX11_edge_69 : decode cX11_edge 69 = .ok (.iload_n 2, 1) := by decide +kernel
theorem dX11_edge_70 : decode cX11_edge 70 = .ok (.iload 7, 2) := by decide +kernel
theorem dX11_edge_72 : decode cX11_edge 72 = .ok (.iload 4, 2) := by decide +kernel
theorem dX11_edge_74 : decode cX11_edge 74 = .ok (.iload 5, 2) := by decide +kernel
theorem dX11_edge_76 : decode cX11_edge 76 = .ok (.invokevirtual 135, 3) := by decide +kernel
theorem dX11_edge_79 : decode cX11_edge 79 = .ok (.iload 8, 2) := by decide +kernel
theorem dX11_edge_81 : decode cX11_edge 81 = .ok (.ireturn, 1) := by decide +kernel
theorem dX11_forbid_0 : decode cX11_forbid 0 = .ok (.iload_n 1, 1) := by decide +kernel
theorem dX11_forbid_1 : decode cX11_forbid 1 = .ok (.iconst 2, 1) := by decide +kernel
theorem dX11_forbid_2 : decode cX11_forbid 2 = .ok (.iconst 3, 1) := by decide +kernel
theorem dX11_forbid_3 : decode cX11_forbid 3 = .ok (.invokestatic 96, 3) := by decide +kernel
theorem dX11_forbid_6 : decode cX11_forbid 6 = .ok (.aload_n 0, 1) := by decide +kernel
theorem dX11_forbid_7 : decode cX11_forbid 7 = .ok (.getfield 10, 3) := by decide +kernel
theorem dX11_forbid_10 : decode cX11_forbid 10 = .ok (.iload_n 1, 1) := by decide +kernel
theorem dX11_forbid_11 : decode cX11_forbid 11 = .ok (.invokevirtual 139, 3) := by decide +kernel
theorem dX11_forbid_14 : decode cX11_forbid 14 = .ok (.ifCond .ne 13, 3) := by decide +kernel
theorem dX11_forbid_17 : decode cX11_forbid 17 = .ok (.new 142, 3) := by decide +kernel
theorem dX11_forbid_20 : decode cX11_forbid 20 = .ok (.dup, 1) := by decide +kernel
theorem dX11_forbid_21 : decode cX11_forbid 21 = .ok (.ldc 144, 2) := by decide +kernel
theorem dX11_forbid_23 : decode cX11_forbid 23 = .ok (.invokespecial 146, 3) := by decide +kernel
theorem dX11_forbid_26 : decode cX11_forbid 26 = .ok (.athrow, 1) := by decide +kernel
theorem dX11_forbid_27 : decode cX11_forbid 27 = .ok (.aload_n 0, 1) := by decide +kernel
theorem dX11_forbid_28 : decode cX11_forbid 28 = .ok (.invokevirtual 100, 3) := by decide +kernel
theorem dX11_forbid_31 : decode cX11_forbid 31 = .ok (.aload_n 0, 1) := by decide +kernel
theorem dX11_forbid_32 : decode cX11_forbid 32 = .ok (.aload_n 0, 1) := by decide +kernel
theorem dX11_forbid_33 : decode cX11_forbid 33 = .ok (.getfield 10, 3) := by decide +kernel
theorem dX11_forbid_36 : decode cX11_forbid 36 = .ok (.iload_n 1, 1) := by decide +kernel
theorem dX11_forbid_37 : decode cX11_forbid 37 = .ok (.invokestatic 147, 3) := by decide +kernel
theorem dX11_forbid_40 : decode cX11_forbid 40 = .ok (.invokevirtual 106, 3) := by decide +kernel
theorem dX11_forbid_43 : decode cX11_forbid 43 = .ok (.istore_n 2, 1) := by decide +kernel
theorem dX11_forbid_44 : decode cX11_forbid 44 = .ok (.aload_n 0, 1) := by decide +kernel
theorem dX11_forbid_45 : decode cX11_forbid 45 = .ok (.getfield 10, 3) := by decide +kernel
theorem dX11_forbid_48 : decode cX11_forbid 48 = .ok (.invokevirtual 93, 3) := by decide +kernel
theorem dX11_forbid_51 : decode cX11_forbid 51 = .ok (.iload_n 2, 1) := by decide +kernel
theorem dX11_forbid_52 : decode cX11_forbid 52 = .ok (.ireturn, 1) := by decide +kernel
theorem dX11_futures_0 : decode cX11_futures 0 = .ok (.aload_n 0, 1) := by decide +kernel
theorem dX11_futures_1 : decode cX11_futures 1 = .ok (.getfield 37, 3) := by decide +kernel
theorem dX11_futures_4 : decode cX11_futures 4 = .ok (.aload_n 0, 1) := by decide +kernel
theorem dX11_futures_5 : decode cX11_futures 5 = .ok (.iload_n 1, 1) := by decide +kernel
theorem dX11_futures_6 : decode cX11_futures 6 = .ok (.invokevirtual 110, 3) := by decide +kernel
theorem dX11_futures_9 : decode cX11_futures 9 = .ok (.invokevirtual 206, 3) := by decide +kernel
theorem dX11_futures_12 : decode cX11_futures 12 = .ok (.istore_n 2, 1) := by decide +kernel
theorem dX11_futures_13 : decode cX11_futures 13 = .ok (.iload_n 2, 1) := by decide +kernel
theorem dX11_futures_14 : decode cX11_futures 14 = .ok (.ifCond .ge 13, 3) := by decide +kernel
theorem dX11_futures_17 : decode cX11_futures 17 = .ok (.new 142, 3) := by decide +kernel
theorem dX11_futures_20 : decode cX11_futures 20 = .ok (.dup, 1) := by decide +kernel
theorem dX11_futures_21 : decode cX11_futures 21 = .ok (.ldc 209, 2) := by decide +kernel
theorem dX11_futures_23 : decode cX11_futures 23 = .ok (.invokespecial 146, 3) := by decide +kernel
theorem dX11_futures_26 : decode cX11_futures 26 = .ok (.athrow, 1) := by decide +kernel
theorem dX11_futures_27 : decode cX11_futures 27 = .ok (.iload_n 2, 1) := by decide +kernel
theorem dX11_futures_28 : decode cX11_futures 28 = .ok (.ireturn, 1) := by decide +kernel
theorem dX11_gaps_0 : decode cX11_gaps 0 = .ok (.iload_n 1, 1) := by decide +kernel
theorem dX11_gaps_1 : decode cX11_gaps 1 = .ok (.iconst 1, 1) := by decide +kernel
theorem dX11_gaps_2 : decode cX11_gaps 2 = .ok (.sipush 255, 3) := by decide +kernel
theorem dX11_gaps_5 : decode cX11_gaps 5 = .ok (.invokestatic 96, 3) := by decide +kernel
theorem dX11_gaps_8 : decode cX11_gaps 8 = .ok (.aload_n 0, 1) := by decide +kernel
theorem dX11_gaps_9 : decode cX11_gaps 9 = .ok (.invokevirtual 100, 3) := by decide +kernel
theorem dX11_gaps_12 : decode cX11_gaps 12 = .ok (.aload_n 0, 1) := by decide +kernel
theorem dX11_gaps_13 : decode cX11_gaps 13 = .ok (.iload_n 1, 1) := by decide +kernel
theorem dX11_gaps_14 : decode cX11_gaps 14 = .ok (.invokestatic 153, 3) := by decide +kernel
theorem dX11_gaps_17 : decode cX11_gaps 17 = .ok (.invokevirtual 106, 3) := by decide +kernel
theorem dX11_gaps_20 : decode cX11_gaps 20 = .ok (.ireturn, 1) := by decide +kernel
theorem dX11_get_0 : decode cX11_get 0 = .ok (.aload_n 0, 1) := by decide +kernel
theorem dX11_get_1 : decode cX11_get 1 = .ok (.iload_n 1, 1) := by decide +kernel
theorem dX11_get_2 : decode cX11_get 2 = .ok (.invokevirtual 288, 3) := by decide +kernel
theorem dX11_get_5 : decode cX11_get 5 = .ok (.astore 4, 2) := by decide +kernel
theorem dX11_get_7 : decode cX11_get 7 = .ok (.aload 4, 2) := by decide +kernel
theorem dX11_get_9 : decode cX11_get 9 = .ok (.iload_n 2, 1) := by decide +kernel
theorem dX11_get_10 : decode cX11_get 10 = .ok (.iload_n 3, 1) := by decide +kernel
theorem dX11_get_11 : decode cX11_get 11 = .ok (.invokestatic 292, 3) := by decide +kernel
theorem dX11_get_14 : decode cX11_get 14 = .ok (.aload 4, 2) := by decide +kernel
theorem dX11_get_16 : decode cX11_get 16 = .ok (.iload_n 2, 1) := by decide +kernel
theorem dX11_get_17 : decode cX11_get 17 = .ok (.iload_n 3, 1) := by decide +kernel
theorem dX11_get_18 : decode cX11_get 18 = .ok (.invokevirtual 296, 3) := by decide +kernel
theorem dX11_get_21 : decode cX11_get 21 = .ok (.l2i, 1) := by decide +kernel
theorem dX11_get_22 : decode cX11_get 22 = .ok (.ireturn, 1) := by decide +kernel
theorem dX11_growth_0 : decode cX11_growth 0 = .ok (.aload_n 0, 1) := by decide +kernel
theorem dX11_growth_1 : decode cX11_growth 1 = .ok (.iload_n 1, 1) := by decide +kernel
theorem dX11_growth_2 : decode cX11_growth 2 = .ok (.invokevirtual 110, 3) := by decide +kernel
theorem dX11_growth_5 : decode cX11_growth 5 = .ok (.astore 4, 2) := by decide +kernel
theorem dX11_growth_7 : decode cX11_growth 7 = .ok (.iload_n 2, 1) := by decide +kernel
theorem dX11_growth_8 : decode cX11_growth 8 = .ok (.iconst 0, 1) := by decide +kernel
theorem dX11_growth_9 : decode cX11_growth 9 = .ok (.bipush 6, 2) := by decide +kernel
theorem dX11_growth_11 : decode cX11_growth 11 = .ok (.invokestatic 96, 3) := by decide +kernel
theorem dX11_growth_14 : decode cX11_growth 14 = .ok (.aload 4, 2) := by decide +kernel
theorem dX11_growth_16 : decode cX11_growth 16 = .ok (.invokevirtual 156, 3) := by decide +kernel
theorem dX11_growth_19 : decode cX11_growth 19 = .ok (.ifCond .ne 13, 3) := by decide +kernel
theorem dX11_growth_22 : decode cX11_growth 22 = .ok (.new 142, 3) := by decide +kernel
theorem dX11_growth_25 : decode cX11_growth 25 = .ok (.dup, 1) := by decide +kernel
theorem dX11_growth_26 : decode cX11_growth 26 = .ok (.ldc 225, 2) := by decide +kernel
theorem dX11_growth_28 : decode cX11_growth 28 = .ok (.invokespecial 146, 3) := by decide +kernel
theorem dX11_growth_31 : decode cX11_growth 31 = .ok (.athrow, 1) := by decide +kernel
theorem dX11_growth_32 : decode cX11_growth 32 = .ok (.aload_n 0, 1) := by decide +kernel
theorem dX11_growth_33 : decode cX11_growth 33 = .ok (.getfield 51, 3) := by decide +kernel
theorem dX11_growth_36 : decode cX11_growth 36 = .ok (.aload 4, 2) := by decide +kernel
theorem dX11_growth_38 : decode cX11_growth 38 = .ok (.iload_n 2, 1) := by decide +kernel
theorem dX11_growth_39 : decode cX11_growth 39 = .ok (.iload_n 3, 1) := by decide +kernel
theorem dX11_growth_40 : decode cX11_growth 40 = .ok (.invokevirtual 227, 3) := by decide +kernel
theorem dX11_growth_43 : decode cX11_growth 43 = .ok (.lreturn, 1) := by decide +kernel
theorem dX11_hasBit_0 : decode cX11_hasBit 0 = .ok (.iload_n 0, 1) := by decide +kernel
theorem dX11_hasBit_1 : decode cX11_hasBit 1 = .ok (.iload_n 1, 1) := by decide +kernel
theorem dX11_hasBit_2 : decode cX11_hasBit 2 = .ok (.ishr, 1) := by decide +kernel
theorem dX11_hasBit_3 : decode cX11_hasBit 3 = .ok (.iconst 1, 1) := by decide +kernel
theorem dX11_hasBit_4 : decode cX11_hasBit 4 = .ok (.iand, 1) := by decide +kernel
theorem dX11_hasBit_5 : decode cX11_hasBit 5 = .ok (.ifCond .eq 7, 3) := by decide +kernel
theorem dX11_hasBit_8 : decode cX11_hasBit 8 = .ok (.iconst 1, 1) := by decide +kernel
theorem dX11_hasBit_9 : decode cX11_hasBit 9 = .ok (.goto 4, 3) := by decide +kernel
theorem dX11_hasBit_12 : decode cX11_hasBit 12 = .ok (.iconst 0, 1) := by decide +kernel
theorem dX11_hasBit_13 : decode cX11_hasBit 13 = .ok (.ireturn, 1) := by decide +kernel
theorem dX11_image_0 : decode cX11_image 0 = .ok (.aload_n 0, 1) := by decide +kernel
theorem dX11_image_1 : decode cX11_image 1 = .ok (.iload_n 1, 1) := by decide +kernel
theorem dX11_image_2 : decode cX11_image 2 = .ok (.invokevirtual 239, 3) := by decide +kernel
theorem dX11_image_5 : decode cX11_image 5 = .ok (.astore_n 3, 1) := by decide +kernel
theorem dX11_image_6 : decode cX11_image 6 = .ok (.aload_n 0, 1) := by decide +kernel
theorem dX11_image_7 : decode cX11_image 7 = .ok (.iload_n 2, 1) := by decide +kernel
theorem dX11_image_8 : decode cX11_image 8 = .ok (.invokevirtual 110, 3) := by decide +kernel
theorem dX11_image_11 : decode cX11_image 11 = .ok (.astore 4, 2) := by decide +kernel
theorem dX11_image_13 : decode cX11_image 13 = .ok (.aload_n 3, 1) := by decide +kernel
theorem dX11_image_14 : decode cX11_image 14 = .ok (.getfield 256, 3) := by decide +kernel
theorem dX11_image_17 : decode cX11_image 17 = .ok (.aload 4, 2) := by decide +kernel
theorem dX11_image_19 : decode cX11_image 19 = .ok (.getfield 170, 3) := by decide +kernel
theorem dX11_image_22 : decode cX11_image 22 = .ok (.if_icmp .eq 13, 3) := by decide +kernel
theorem dX11_image_25 : decode cX11_image 25 = .ok (.new 142, 3) := by decide +kernel
theorem dX11_image_28 : decode cX11_image 28 = .ok (.dup, 1) := by decide +kernel
theorem dX11_image_29 : decode cX11_image 29 = .ok (.ldc 211, 2) := by decide +kernel
theorem dX11_image_31 : decode cX11_image 31 = .ok (.invokespecial 146, 3) := by decide +kernel
theorem dX11_image_34 : decode cX11_image 34 = .ok (.athrow, 1) := by decide +kernel
theorem dX11_image_35 : decode cX11_image 35 = .ok (.aload 4, 2) := by decide +kernel
theorem dX11_image_37 : decode cX11_image 37 = .ok (.aload 4, 2) := by decide +kernel
theorem dX11_image_39 : decode cX11_image 39 = .ok (.invokevirtual 156, 3) := by decide +kernel
theorem dX11_image_42 : decode cX11_image 42 = .ok (.invokestatic 266, 3) := by decide +kernel
theorem dX11_image_45 : decode cX11_image 45 = .ok (.istore 5, 2) := by decide +kernel
theorem dX11_image_47 : decode cX11_image 47 = .ok (.iload 5, 2) := by decide +kernel
theorem dX11_image_49 : decode cX11_image 49 = .ok (.iconst 1, 1) := by decide +kernel
theorem dX11_image_50 : decode cX11_image 50 = .ok (.if_icmp .lt 10, 3) := by decide +kernel
theorem dX11_image_53 : decode cX11_image 53 = .ok (.iload 5, 2) := by decide +kernel
theorem dX11_image_55 : decode cX11_image 55 = .ok (.bipush 24, 2) := by decide +kernel
theorem dX11_image_57 : decode cX11_image 57 = .ok (.if_icmp .le 14, 3) := by decide +kernel
theorem dX11_image_60 : decode cX11_image 60 = .ok (.new 142, 3) := by decide +kernel
theorem dX11_image_63 : decode cX11_image 63 = .ok (.dup, 1) := by decide +kernel
theorem dX11_image_64 : decode cX11_image 64 = .ok (.ldc_w 269, 3) := by decide +kernel
theorem dX11_image_67 : decode cX11_image 67 = .ok (.invokespecial 146, 3) := by decide +kernel
theorem dX11_image_70 : decode cX11_image 70 = .ok (.athrow, 1) := by decide +kernel
theorem dX11_image_71 : decode cX11_image 71 = .ok (.aload_n 0, 1) := by decide +kernel
theorem dX11_image_72 : decode cX11_image 72 = .ok (.invokevirtual 100, 3) := by decide +kernel
theorem dX11_image_75 : decode cX11_image 75 = .ok (.aload_n 0, 1) := by decide +kernel
theorem dX11_image_76 : decode cX11_image 76 = .ok (.aload_n 3, 1) := by decide +kernel
theorem dX11_image_77 : decode cX11_image 77 = .ok (.aload 4, 2) := by decide +kernel
theorem dX11_image_79 : decode cX11_image 79 = .ok (.invokestatic 271, 3) := by decide +kernel
theorem dX11_image_82 : decode cX11_image 82 = .ok (.invokevirtual 106, 3) := by decide +kernel
theorem dX11_image_85 : decode cX11_image 85 = .ok (.ireturn, 1) := by decide +kernel
theorem dX11_init_0 : decode cX11_init 0 = .ok (.aload_n 0, 1) := by decide +kernel
theorem dX11_init_1 : decode cX11_init 1 = .ok (.invokespecial 1, 3) := by decide +kernel
theorem dX11_init_4 : decode cX11_init 4 = .ok (.aload_n 0, 1) := by decide +kernel
theorem dX11_init_5 : decode cX11_init 5 = .ok (.new 7, 3) := by decide +kernel
theorem dX11_init_8 : decode cX11_init 8 = .ok (.dup, 1) := by decide +kernel
theorem dX11_init_9 : decode cX11_init 9 = .ok (.invokespecial 9, 3) := by decide +kernel
theorem dX11_init_12 : decode cX11_init 12 = .ok (.putfield 10, 3) := by decide +kernel
theorem dX11_init_15 : decode cX11_init 15 = .ok (.aload_n 0, 1) := by decide +kernel
theorem dX11_init_16 : decode cX11_init 16 = .ok (.bipush 8, 2) := by decide +kernel
theorem dX11_init_18 : decode cX11_init 18 = .ok (.anewarray 16, 3) := by decide +kernel
theorem dX11_init_21 : decode cX11_init 21 = .ok (.putfield 18, 3) := by decide +kernel
theorem dX11_init_24 : decode cX11_init 24 = .ok (.aload_n 0, 1) := by decide +kernel
theorem dX11_init_25 : decode cX11_init 25 = .ok (.bipush 6, 2) := by decide +kernel
theorem dX11_init_27 : decode cX11_init 27 = .ok (.anewarray 22, 3) := by decide +kernel
theorem dX11_init_30 : decode cX11_init 30 = .ok (.putfield 24, 3) := by decide +kernel
theorem dX11_init_33 : decode cX11_init 33 = .ok (.aload_n 0, 1) := by decide +kernel
theorem dX11_init_34 : decode cX11_init 34 = .ok (.bipush 8, 2) := by decide +kernel
theorem dX11_init_36 : decode cX11_init 36 = .ok (.anewarray 28, 3) := by decide +kernel
theorem dX11_init_39 : decode cX11_init 39 = .ok (.putfield 30, 3) := by decide +kernel
theorem dX11_init_42 : decode cX11_init 42 = .ok (.aload_n 0, 1) := by decide +kernel
theorem dX11_init_43 : decode cX11_init 43 = .ok (.new 34, 3) := by decide +kernel
theorem dX11_init_46 : decode cX11_init 46 = .ok (.dup, 1) := by decide +kernel
theorem dX11_init_47 : decode cX11_init 47 = .ok (.invokespecial 36, 3) := by decide +kernel
theorem dX11_init_50 : decode cX11_init 50 = .ok (.putfield 37, 3) := by decide +kernel
theorem dX11_init_53 : decode cX11_init 53 = .ok (.aload_n 0, 1) := by decide +kernel
theorem dX11_init_54 : decode cX11_init 54 = .ok (.new 41, 3) := by decide +kernel
theorem dX11_init_57 : decode cX11_init 57 = .ok (.dup, 1) := by decide +kernel
theorem dX11_init_58 : decode cX11_init 58 = .ok (.invokespecial 43, 3) := by decide +kernel
theorem dX11_init_61 : decode cX11_init 61 = .ok (.putfield 44, 3) := by decide +kernel
theorem dX11_init_64 : decode cX11_init 64 = .ok (.aload_n 0, 1) := by decide +kernel
theorem dX11_init_65 : decode cX11_init 65 = .ok (.new 48, 3) := by decide +kernel
theorem dX11_init_68 : decode cX11_init 68 = .ok (.dup, 1) := by decide +kernel
theorem dX11_init_69 : decode cX11_init 69 = .ok (.invokespecial 50, 3) := by decide +kernel
theorem dX11_init_72 : decode cX11_init 72 = .ok (.putfield 51, 3) := by decide +kernel
theorem dX11_init_75 : decode cX11_init 75 = .ok (.aload_n 0, 1) := by decide +kernel
theorem dX11_init_76 : decode cX11_init 76 = .ok (.new 55, 3) := by decide +kernel
theorem dX11_init_79 : decode cX11_init 79 = .ok (.dup, 1) := by decide +kernel
theorem dX11_init_80 : decode cX11_init 80 = .ok (.invokespecial 57, 3) := by decide +kernel
theorem dX11_init_83 : decode cX11_init 83 = .ok (.putfield 58, 3) := by decide +kernel
theorem dX11_init_86 : decode cX11_init 86 = .ok (.aload_n 0, 1) := by decide +kernel
theorem dX11_init_87 : decode cX11_init 87 = .ok (.new 62, 3) := by decide +kernel
theorem dX11_init_90 : decode cX11_init 90 = .ok (.dup, 1) := by decide +kernel
theorem dX11_init_91 : decode cX11_init 91 = .ok (.invokespecial 64, 3) := by decide +kernel
theorem dX11_init_94 : decode cX11_init 94 = .ok (.putfield 65, 3) := by decide +kernel
theorem dX11_init_97 : decode cX11_init 97 = .ok (.return_, 1) := by decide +kernel
theorem dX11_isIrreducible_0 : decode cX11_isIrreducible 0 = .ok (.aload_n 0, 1) := by decide +kernel
theorem dX11_isIrreducible_1 : decode cX11_isIrreducible 1 = .ok (.getfield 44, 3) := by decide +kernel
theorem dX11_isIrreducible_4 : decode cX11_isIrreducible 4 = .ok (.aload_n 0, 1) := by decide +kernel
theorem dX11_isIrreducible_5 : decode cX11_isIrreducible 5 = .ok (.iload_n 1, 1) := by decide +kernel
theorem dX11_isIrreducible_6 : decode cX11_isIrreducible 6 = .ok (.invokevirtual 110, 3) := by decide +kernel
theorem dX11_isIrreducible_9 : decode cX11_isIrreducible 9 = .ok (.invokevirtual 198, 3) := by decide +kernel
theorem dX11_isIrreducible_12 : decode cX11_isIrreducible 12 = .ok (.ireturn, 1) := by decide +kernel
theorem dX11_isSound_0 : decode cX11_isSound 0 = .ok (.aload_n 0, 1) := by decide +kernel
theorem dX11_isSound_1 : decode cX11_isSound 1 = .ok (.getfield 10, 3) := by decide +kernel
theorem dX11_isSound_4 : decode cX11_isSound 4 = .ok (.invokevirtual 418, 3) := by decide +kernel
theorem dX11_isSound_7 : decode cX11_isSound 7 = .ok (.ifCond .eq 34, 3) := by decide +kernel
theorem dX11_isSound_10 : decode cX11_isSound 10 = .ok (.aload_n 0, 1) := by decide +kernel
theorem dX11_isSound_11 : decode cX11_isSound 11 = .ok (.getfield 397, 3) := by decide +kernel
theorem dX11_isSound_14 : decode cX11_isSound 14 = .ok (.bipush 8, 2) := by decide +kernel
theorem dX11_isSound_16 : decode cX11_isSound 16 = .ok (.if_icmp .gt 25, 3) := by decide +kernel
theorem dX11_isSound_19 : decode cX11_isSound 19 = .ok (.aload_n 0, 1) := by decide +kernel
theorem dX11_isSound_20 : decode cX11_isSound 20 = .ok (.getfield 231, 3) := by decide +kernel
theorem dX11_isSound_23 : decode cX11_isSound 23 = .ok (.bipush 6, 2) := by decide +kernel
theorem dX11_isSound_25 : decode cX11_isSound 25 = .ok (.if_icmp .gt 16, 3) := by decide +kernel
theorem dX11_isSound_28 : decode cX11_isSound 28 = .ok (.aload_n 0, 1) := by decide +kernel
theorem dX11_isSound_29 : decode cX11_isSound 29 = .ok (.getfield 279, 3) := by decide +kernel
theorem dX11_isSound_32 : decode cX11_isSound 32 = .ok (.bipush 8, 2) := by decide +kernel
theorem dX11_isSound_34 : decode cX11_isSound 34 = .ok (.if_icmp .gt 7, 3) := by decide +kernel
theorem dX11_isSound_37 : decode cX11_isSound 37 = .ok (.iconst 1, 1) := by decide +kernel
theorem dX11_isSound_38 : decode cX11_isSound 38 = .ok (.goto 4, 3) := by decide +kernel
theorem dX11_isSound_41 : decode cX11_isSound 41 = .ok (.iconst 0, 1) := by decide +kernel
theorem dX11_isSound_42 : decode cX11_isSound 42 = .ok (.istore_n 1, 1) := by decide +kernel
theorem dX11_isSound_43 : decode cX11_isSound 43 = .ok (.iconst 0, 1) := by decide +kernel
theorem dX11_isSound_44 : decode cX11_isSound 44 = .ok (.istore_n 2, 1) := by decide +kernel
theorem dX11_isSound_45 : decode cX11_isSound 45 = .ok (.iload_n 2, 1) := by decide +kernel
theorem dX11_isSound_46 : decode cX11_isSound 46 = .ok (.aload_n 0, 1) := by decide +kernel
theorem dX11_isSound_47 : decode cX11_isSound 47 = .ok (.getfield 18, 3) := by decide +kernel
theorem dX11_isSound_50 : decode cX11_isSound 50 = .ok (.arraylength, 1) := by decide +kernel
theorem dX11_isSound_51 : decode cX11_isSound 51 = .ok (.if_icmp .ge 56, 3) := by decide +kernel
theorem dX11_isSound_54 : decode cX11_isSound 54 = .ok (.aload_n 0, 1) := by decide +kernel
theorem dX11_isSound_55 : decode cX11_isSound 55 = .ok (.getfield 18, 3) := by decide +kernel
theorem dX11_isSound_58 : decode cX11_isSound 58 = .ok (.iload_n 2, 1) := by decide +kernel
theorem dX11_isSound_59 : decode cX11_isSound 59 = .ok (.aaload, 1) := by decide +kernel
theorem dX11_isSound_60 : decode cX11_isSound 60 = .ok (.astore_n 3, 1) := by decide +kernel
theorem dX11_isSound_61 : decode cX11_isSound 61 = .ok (.iload_n 1, 1) := by decide +kernel
theorem dX11_isSound_62 : decode cX11_isSound 62 = .ok (.ifCond .eq 37, 3) := by decide +kernel
theorem dX11_isSound_65 : decode cX11_isSound 65 = .ok (.aload_n 3, 1) := by decide +kernel
theorem dX11_isSound_66 : decode cX11_isSound 66 = .ok (.ifnonnull 14, 3) := by decide +kernel
theorem dX11_isSound_69 : decode cX11_isSound 69 = .ok (.iload_n 2, 1) := by decide +kernel
theorem dX11_isSound_70 : decode cX11_isSound 70 = .ok (.aload_n 0, 1) := by decide +kernel
theorem dX11_isSound_71 : decode cX11_isSound 71 = .ok (.getfield 397, 3) := by decide +kernel
theorem dX11_isSound_74 : decode cX11_isSound 74 = .ok (.if_icmp .lt 25, 3) := by decide +kernel
theorem dX11_isSound_77 : decode cX11_isSound 77 = .ok (.goto 18, 3) := by decide +kernel
theorem dX11_isSound_80 : decode cX11_isSound 80 = .ok (.iload_n 2, 1) := by decide +kernel
theorem dX11_isSound_81 : decode cX11_isSound 81 = .ok (.aload_n 0, 1) := by decide +kernel
theorem dX11_isSound_82 : decode cX11_isSound 82 = .ok (.getfield 397, 3) := by decide +kernel
theorem dX11_isSound_85 : decode cX11_isSound 85 = .ok (.if_icmp .ge 14, 3) := by decide +kernel
theorem dX11_isSound_88 : decode cX11_isSound 88 = .ok (.aload_n 3, 1) := by decide +kernel
theorem dX11_isSound_89 : decode cX11_isSound 89 = .ok (.invokevirtual 421, 3) := by decide +kernel
theorem dX11_isSound_92 : decode cX11_isSound 92 = .ok (.ifCond .eq 7, 3) := by decide +kernel
theorem dX11_isSound_95 : decode cX11_isSound 95 = .ok (.iconst 1, 1) := by decide +kernel
theorem dX11_isSound_96 : decode cX11_isSound 96 = .ok (.goto 4, 3) := by decide +kernel
theorem dX11_isSound_99 : decode cX11_isSound 99 = .ok (.iconst 0, 1) := by decide +kernel
theorem dX11_isSound_100 : decode cX11_isSound 100 = .ok (.istore_n 1, 1) := by decide +kernel
theorem dX11_isSound_101 : decode cX11_isSound 101 = .ok (.iinc 2 1, 3) := by decide +kernel
theorem dX11_isSound_104 : decode cX11_isSound 104 = .ok (.goto (-59), 3) := by decide +kernel
theorem dX11_isSound_107 : decode cX11_isSound 107 = .ok (.iconst 0, 1) := by decide +kernel
theorem dX11_isSound_108 : decode cX11_isSound 108 = .ok (.istore_n 2, 1) := by decide +kernel
theorem dX11_isSound_109 : decode cX11_isSound 109 = .ok (.iload_n 2, 1) := by decide +kernel
theorem dX11_isSound_110 : decode cX11_isSound 110 = .ok (.aload_n 0, 1) := by decide +kernel
theorem dX11_isSound_111 : decode cX11_isSound 111 = .ok (.getfield 24, 3) := by decide +kernel
theorem dX11_isSound_114 : decode cX11_isSound 114 = .ok (.arraylength, 1) := by decide +kernel
theorem dX11_isSound_115 : decode cX11_isSound 115 = .ok (.if_icmp .ge 56, 3) := by decide +kernel
theorem dX11_isSound_118 : decode cX11_isSound 118 = .ok (.aload_n 0, 1) := by decide +kernel
theorem dX11_isSound_119 : decode cX11_isSound 119 = .ok (.getfield 24, 3) := by decide +kernel
theorem dX11_isSound_122 : decode cX11_isSound 122 = .ok (.iload_n 2, 1) := by decide +kernel
theorem dX11_isSound_123 : decode cX11_isSound 123 = .ok (.aaload, 1) := by decide +kernel
theorem dX11_isSound_124 : decode cX11_isSound 124 = .ok (.astore_n 3, 1) := by decide +kernel
theorem dX11_isSound_125 : decode cX11_isSound 125 = .ok (.iload_n 1, 1) := by decide +kernel
theorem dX11_isSound_126 : decode cX11_isSound 126 = .ok (.ifCond .eq 37, 3) := by decide +kernel
theorem dX11_isSound_129 : decode cX11_isSound 129 = .ok (.aload_n 3, 1) := by decide +kernel
theorem dX11_isSound_130 : decode cX11_isSound 130 = .ok (.ifnonnull 14, 3) := by decide +kernel
theorem dX11_isSound_133 : decode cX11_isSound 133 = .ok (.iload_n 2, 1) := by decide +kernel
theorem dX11_isSound_134 : decode cX11_isSound 134 = .ok (.aload_n 0, 1) := by decide +kernel
theorem dX11_isSound_135 : decode cX11_isSound 135 = .ok (.getfield 231, 3) := by decide +kernel
theorem dX11_isSound_138 : decode cX11_isSound 138 = .ok (.if_icmp .lt 25, 3) := by decide +kernel
theorem dX11_isSound_141 : decode cX11_isSound 141 = .ok (.goto 18, 3) := by decide +kernel
theorem dX11_isSound_144 : decode cX11_isSound 144 = .ok (.iload_n 2, 1) := by decide +kernel
theorem dX11_isSound_145 : decode cX11_isSound 145 = .ok (.aload_n 0, 1) := by decide +kernel
theorem dX11_isSound_146 : decode cX11_isSound 146 = .ok (.getfield 231, 3) := by decide +kernel
theorem dX11_isSound_149 : decode cX11_isSound 149 = .ok (.if_icmp .ge 14, 3) := by decide +kernel
theorem dX11_isSound_152 : decode cX11_isSound 152 = .ok (.aload_n 3, 1) := by decide +kernel
theorem dX11_isSound_153 : decode cX11_isSound 153 = .ok (.invokevirtual 422, 3) := by decide +kernel
theorem dX11_isSound_156 : decode cX11_isSound 156 = .ok (.ifCond .eq 7, 3) := by decide +kernel
theorem dX11_isSound_159 : decode cX11_isSound 159 = .ok (.iconst 1, 1) := by decide +kernel
theorem dX11_isSound_160 : decode cX11_isSound 160 = .ok (.goto 4, 3) := by decide +kernel
theorem dX11_isSound_163 : decode cX11_isSound 163 = .ok (.iconst 0, 1) := by decide +kernel
theorem dX11_isSound_164 : decode cX11_isSound 164 = .ok (.istore_n 1, 1) := by decide +kernel
theorem dX11_isSound_165 : decode cX11_isSound 165 = .ok (.iinc 2 1, 3) := by decide +kernel
theorem dX11_isSound_168 : decode cX11_isSound 168 = .ok (.goto (-59), 3) := by decide +kernel
theorem dX11_isSound_171 : decode cX11_isSound 171 = .ok (.iconst 0, 1) := by decide +kernel
theorem dX11_isSound_172 : decode cX11_isSound 172 = .ok (.istore_n 2, 1) := by decide +kernel
theorem dX11_isSound_173 : decode cX11_isSound 173 = .ok (.iload_n 2, 1) := by decide +kernel
theorem dX11_isSound_174 : decode cX11_isSound 174 = .ok (.aload_n 0, 1) := by decide +kernel
theorem dX11_isSound_175 : decode cX11_isSound 175 = .ok (.getfield 30, 3) := by decide +kernel
theorem dX11_isSound_178 : decode cX11_isSound 178 = .ok (.arraylength, 1) := by decide +kernel
theorem dX11_isSound_179 : decode cX11_isSound 179 = .ok (.if_icmp .ge 56, 3) := by decide +kernel
theorem dX11_isSound_182 : decode cX11_isSound 182 = .ok (.aload_n 0, 1) := by decide +kernel
theorem dX11_isSound_183 : decode cX11_isSound 183 = .ok (.getfield 30, 3) := by decide +kernel
theorem dX11_isSound_186 : decode cX11_isSound 186 = .ok (.iload_n 2, 1) := by decide +kernel
theorem dX11_isSound_187 : decode cX11_isSound 187 = .ok (.aaload, 1) := by decide +kernel
theorem dX11_isSound_188 : decode cX11_isSound 188 = .ok (.astore_n 3, 1) := by decide +kernel
theorem dX11_isSound_189 : decode cX11_isSound 189 = .ok (.iload_n 1, 1) := by decide +kernel
theorem dX11_isSound_190 : decode cX11_isSound 190 = .ok (.ifCond .eq 37, 3) := by decide +kernel
theorem dX11_isSound_193 : decode cX11_isSound 193 = .ok (.aload_n 3, 1) := by decide +kernel
theorem dX11_isSound_194 : decode cX11_isSound 194 = .ok (.ifnonnull 14, 3) := by decide +kernel
theorem dX11_isSound_197 : decode cX11_isSound 197 = .ok (.iload_n 2, 1) := by decide +kernel
theorem dX11_isSound_198 : decode cX11_isSound 198 = .ok (.aload_n 0, 1) := by decide +kernel
theorem dX11_isSound_199 : decode cX11_isSound 199 = .ok (.getfield 279, 3) := by decide +kernel
theorem dX11_isSound_202 : decode cX11_isSound 202 = .ok (.if_icmp .lt 25, 3) := by decide +kernel
theorem dX11_isSound_205 : decode cX11_isSound 205 = .ok (.goto 18, 3) := by decide +kernel
theorem dX11_isSound_208 : decode cX11_isSound 208 = .ok (.iload_n 2, 1) := by decide +kernel
theorem dX11_isSound_209 : decode cX11_isSound 209 = .ok (.aload_n 0, 1) := by decide +kernel
theorem dX11_isSound_210 : decode cX11_isSound 210 = .ok (.getfield 279, 3) := by decide +kernel
theorem dX11_isSound_213 : decode cX11_isSound 213 = .ok (.if_icmp .ge 14, 3) := by decide +kernel
theorem dX11_isSound_216 : decode cX11_isSound 216 = .ok (.aload_n 3, 1) := by decide +kernel
theorem dX11_isSound_217 : decode cX11_isSound 217 = .ok (.invokevirtual 423, 3) := by decide +kernel
theorem dX11_isSound_220 : decode cX11_isSound 220 = .ok (.ifCond .eq 7, 3) := by decide +kernel
theorem dX11_isSound_223 : decode cX11_isSound 223 = .ok (.iconst 1, 1) := by decide +kernel
theorem dX11_isSound_224 : decode cX11_isSound 224 = .ok (.goto 4, 3) := by decide +kernel
theorem dX11_isSound_227 : decode cX11_isSound 227 = .ok (.iconst 0, 1) := by decide +kernel
theorem dX11_isSound_228 : decode cX11_isSound 228 = .ok (.istore_n 1, 1) := by decide +kernel
theorem dX11_isSound_229 : decode cX11_isSound 229 = .ok (.iinc 2 1, 3) := by decide +kernel
theorem dX11_isSound_232 : decode cX11_isSound 232 = .ok (.goto (-59), 3) := by decide +kernel
theorem dX11_isSound_235 : decode cX11_isSound 235 = .ok (.iload_n 1, 1) := by decide +kernel
theorem dX11_isSound_236 : decode cX11_isSound 236 = .ok (.ireturn, 1) := by decide +kernel
theorem dX11_matrix_0 : decode cX11_matrix 0 = .ok (.iload_n 1, 1) := by decide +kernel
theorem dX11_matrix_1 : decode cX11_matrix 1 = .ok (.iconst 1, 1) := by decide +kernel
theorem dX11_matrix_2 : decode cX11_matrix 2 = .ok (.iconst 5, 1) := by decide +kernel
theorem dX11_matrix_3 : decode cX11_matrix 3 = .ok (.invokestatic 96, 3) := by decide +kernel
theorem dX11_matrix_6 : decode cX11_matrix 6 = .ok (.iload_n 2, 1) := by decide +kernel
theorem dX11_matrix_7 : decode cX11_matrix 7 = .ok (.iconst 1, 1) := by decide +kernel
theorem dX11_matrix_8 : decode cX11_matrix 8 = .ok (.iconst 5, 1) := by decide +kernel
theorem dX11_matrix_9 : decode cX11_matrix 9 = .ok (.invokestatic 96, 3) := by decide +kernel
theorem dX11_matrix_12 : decode cX11_matrix 12 = .ok (.aload_n 0, 1) := by decide +kernel
theorem dX11_matrix_13 : decode cX11_matrix 13 = .ok (.getfield 279, 3) := by decide +kernel
theorem dX11_matrix_16 : decode cX11_matrix 16 = .ok (.ifCond .lt 15, 3) := by decide +kernel
theorem dX11_matrix_19 : decode cX11_matrix 19 = .ok (.aload_n 0, 1) := by decide +kernel
theorem dX11_matrix_20 : decode cX11_matrix 20 = .ok (.getfield 279, 3) := by decide +kernel
theorem dX11_matrix_23 : decode cX11_matrix 23 = .ok (.aload_n 0, 1) := by decide +kernel
theorem dX11_matrix_24 : decode cX11_matrix 24 = .ok (.getfield 30, 3) := by decide +kernel
theorem dX11_matrix_27 : decode cX11_matrix 27 = .ok (.arraylength, 1) := by decide +kernel
theorem dX11_matrix_28 : decode cX11_matrix 28 = .ok (.if_icmp .lt 14, 3) := by decide +kernel
theorem dX11_matrix_31 : decode cX11_matrix 31 = .ok (.new 84, 3) := by decide +kernel
theorem dX11_matrix_34 : decode cX11_matrix 34 = .ok (.dup, 1) := by decide +kernel
theorem dX11_matrix_35 : decode cX11_matrix 35 = .ok (.ldc_w 282, 3) := by decide +kernel
theorem dX11_matrix_38 : decode cX11_matrix 38 = .ok (.invokespecial 88, 3) := by decide +kernel
theorem dX11_matrix_41 : decode cX11_matrix 41 = .ok (.athrow, 1) := by decide +kernel
theorem dX11_matrix_42 : decode cX11_matrix 42 = .ok (.new 28, 3) := by decide +kernel
theorem dX11_matrix_45 : decode cX11_matrix 45 = .ok (.dup, 1) := by decide +kernel
theorem dX11_matrix_46 : decode cX11_matrix 46 = .ok (.invokespecial 284, 3) := by decide +kernel
theorem dX11_matrix_49 : decode cX11_matrix 49 = .ok (.astore_n 3, 1) := by decide +kernel
theorem dX11_matrix_50 : decode cX11_matrix 50 = .ok (.aload_n 3, 1) := by decide +kernel
theorem dX11_matrix_51 : decode cX11_matrix 51 = .ok (.iload_n 1, 1) := by decide +kernel
theorem dX11_matrix_52 : decode cX11_matrix 52 = .ok (.iload_n 2, 1) := by decide +kernel
theorem dX11_matrix_53 : decode cX11_matrix 53 = .ok (.invokevirtual 285, 3) := by decide +kernel
theorem dX11_matrix_56 : decode cX11_matrix 56 = .ok (.aload_n 0, 1) := by decide +kernel
theorem dX11_matrix_57 : decode cX11_matrix 57 = .ok (.getfield 30, 3) := by decide +kernel
theorem dX11_matrix_60 : decode cX11_matrix 60 = .ok (.aload_n 0, 1) := by decide +kernel
theorem dX11_matrix_61 : decode cX11_matrix 61 = .ok (.getfield 279, 3) := by decide +kernel
theorem dX11_matrix_64 : decode cX11_matrix 64 = .ok (.aload_n 3, 1) := by decide +kernel
theorem dX11_matrix_65 : decode cX11_matrix 65 = .ok (.aastore, 1) := by decide +kernel
theorem dX11_matrix_66 : decode cX11_matrix 66 = .ok (.aload_n 0, 1) := by decide +kernel
theorem dX11_matrix_67 : decode cX11_matrix 67 = .ok (.dup, 1) := by decide +kernel
theorem dX11_matrix_68 : decode cX11_matrix 68 = .ok (.getfield 279, 3) := by decide +kernel
theorem dX11_matrix_71 : decode cX11_matrix 71 = .ok (.iconst 1, 1) := by decide +kernel
theorem dX11_matrix_72 : decode cX11_matrix 72 = .ok (.iadd, 1) := by decide +kernel
theorem dX11_matrix_73 : decode cX11_matrix 73 = .ok (.putfield 279, 3) := by decide +kernel
theorem dX11_matrix_76 : decode cX11_matrix 76 = .ok (.aload_n 0, 1) := by decide +kernel
theorem dX11_matrix_77 : decode cX11_matrix 77 = .ok (.getfield 279, 3) := by decide +kernel
theorem dX11_matrix_80 : decode cX11_matrix 80 = .ok (.iconst 1, 1) := by decide +kernel
theorem dX11_matrix_81 : decode cX11_matrix 81 = .ok (.isub, 1) := by decide +kernel
theorem dX11_matrix_82 : decode cX11_matrix 82 = .ok (.ireturn, 1) := by decide +kernel
theorem dX11_matrixAt_0 : decode cX11_matrixAt 0 = .ok (.iload_n 1, 1) := by decide +kernel
theorem dX11_matrixAt_1 : decode cX11_matrixAt 1 = .ok (.ifCond .lt 29, 3) := by decide +kernel
theorem dX11_matrixAt_4 : decode cX11_matrixAt 4 = .ok (.iload_n 1, 1) := by decide +kernel
theorem dX11_matrixAt_5 : decode cX11_matrixAt 5 = .ok (.aload_n 0, 1) := by decide +kernel
theorem dX11_matrixAt_6 : decode cX11_matrixAt 6 = .ok (.getfield 279, 3) := by decide +kernel
theorem dX11_matrixAt_9 : decode cX11_matrixAt 9 = .ok (.if_icmp .ge 21, 3) := by decide +kernel
theorem dX11_matrixAt_12 : decode cX11_matrixAt 12 = .ok (.iload_n 1, 1) := by decide +kernel
theorem dX11_matrixAt_13 : decode cX11_matrixAt 13 = .ok (.aload_n 0, 1) := by decide +kernel
theorem dX11_matrixAt_14 : decode cX11_matrixAt 14 = .ok (.getfield 30, 3) := by decide +kernel
theorem dX11_matrixAt_17 : decode cX11_matrixAt 17 = .ok (.arraylength, 1) := by decide +kernel
theorem dX11_matrixAt_18 : decode cX11_matrixAt 18 = .ok (.if_icmp .ge 12, 3) := by decide +kernel
theorem dX11_matrixAt_21 : decode cX11_matrixAt 21 = .ok (.aload_n 0, 1) := by decide +kernel
theorem dX11_matrixAt_22 : decode cX11_matrixAt 22 = .ok (.getfield 30, 3) := by decide +kernel
theorem dX11_matrixAt_25 : decode cX11_matrixAt 25 = .ok (.iload_n 1, 1) := by decide +kernel
theorem dX11_matrixAt_26 : decode cX11_matrixAt 26 = .ok (.aaload, 1) := by decide +kernel
theorem dX11_matrixAt_27 : decode cX11_matrixAt 27 = .ok (.goto 4, 3) := by decide +kernel
theorem dX11_matrixAt_30 : decode cX11_matrixAt 30 = .ok (.aconst_null, 1) := by decide +kernel
theorem dX11_matrixAt_31 : decode cX11_matrixAt 31 = .ok (.astore_n 2, 1) := by decide +kernel
theorem dX11_matrixAt_32 : decode cX11_matrixAt 32 = .ok (.aload_n 2, 1) := by decide +kernel
theorem dX11_matrixAt_33 : decode cX11_matrixAt 33 = .ok (.ifnonnull 14, 3) := by decide +kernel
theorem dX11_matrixAt_36 : decode cX11_matrixAt 36 = .ok (.new 424, 3) := by decide +kernel
theorem dX11_matrixAt_39 : decode cX11_matrixAt 39 = .ok (.dup, 1) := by decide +kernel
theorem dX11_matrixAt_40 : decode cX11_matrixAt 40 = .ok (.ldc_w 431, 3) := by decide +kernel
theorem dX11_matrixAt_43 : decode cX11_matrixAt 43 = .ok (.invokespecial 428, 3) := by decide +kernel
theorem dX11_matrixAt_46 : decode cX11_matrixAt 46 = .ok (.athrow, 1) := by decide +kernel
theorem dX11_matrixAt_47 : decode cX11_matrixAt 47 = .ok (.aload_n 2, 1) := by decide +kernel
theorem dX11_matrixAt_48 : decode cX11_matrixAt 48 = .ok (.areturn, 1) := by decide +kernel
theorem dX11_parts_0 : decode cX11_parts 0 = .ok (.aload_n 0, 1) := by decide +kernel
theorem dX11_parts_1 : decode cX11_parts 1 = .ok (.getfield 44, 3) := by decide +kernel
theorem dX11_parts_4 : decode cX11_parts 4 = .ok (.aload_n 0, 1) := by decide +kernel
theorem dX11_parts_5 : decode cX11_parts 5 = .ok (.iload_n 1, 1) := by decide +kernel
theorem dX11_parts_6 : decode cX11_parts 6 = .ok (.invokevirtual 110, 3) := by decide +kernel
theorem dX11_parts_9 : decode cX11_parts 9 = .ok (.invokevirtual 185, 3) := by decide +kernel
theorem dX11_parts_12 : decode cX11_parts 12 = .ok (.ireturn, 1) := by decide +kernel
theorem dX11_points_0 : decode cX11_points 0 = .ok (.aload_n 0, 1) := by decide +kernel
theorem dX11_points_1 : decode cX11_points 1 = .ok (.iload_n 1, 1) := by decide +kernel
theorem dX11_points_2 : decode cX11_points 2 = .ok (.invokevirtual 110, 3) := by decide +kernel
theorem dX11_points_5 : decode cX11_points 5 = .ok (.astore_n 3, 1) := by decide +kernel
theorem dX11_points_6 : decode cX11_points 6 = .ok (.iload_n 2, 1) := by decide +kernel
theorem dX11_points_7 : decode cX11_points 7 = .ok (.iconst 1, 1) := by decide +kernel
theorem dX11_points_8 : decode cX11_points 8 = .ok (.bipush 7, 2) := by decide +kernel
theorem dX11_points_10 : decode cX11_points 10 = .ok (.invokestatic 96, 3) := by decide +kernel
theorem dX11_points_13 : decode cX11_points 13 = .ok (.aload_n 0, 1) := by decide +kernel
theorem dX11_points_14 : decode cX11_points 14 = .ok (.getfield 37, 3) := by decide +kernel
theorem dX11_points_17 : decode cX11_points 17 = .ok (.aload_n 3, 1) := by decide +kernel
theorem dX11_points_18 : decode cX11_points 18 = .ok (.iload_n 2, 1) := by decide +kernel
theorem dX11_points_19 : decode cX11_points 19 = .ok (.invokevirtual 182, 3) := by decide +kernel
theorem dX11_points_22 : decode cX11_points 22 = .ok (.ireturn, 1) := by decide +kernel
theorem dX11_put_0 : decode cX11_put 0 = .ok (.aload_n 0, 1) := by decide +kernel
theorem dX11_put_1 : decode cX11_put 1 = .ok (.iload_n 1, 1) := by decide +kernel
theorem dX11_put_2 : decode cX11_put 2 = .ok (.invokevirtual 288, 3) := by decide +kernel
theorem dX11_put_5 : decode cX11_put 5 = .ok (.astore 5, 2) := by decide +kernel
theorem dX11_put_7 : decode cX11_put 7 = .ok (.aload 5, 2) := by decide +kernel
theorem dX11_put_9 : decode cX11_put 9 = .ok (.iload_n 2, 1) := by decide +kernel
theorem dX11_put_10 : decode cX11_put 10 = .ok (.iload_n 3, 1) := by decide +kernel
theorem dX11_put_11 : decode cX11_put 11 = .ok (.invokestatic 292, 3) := by decide +kernel
theorem dX11_put_14 : decode cX11_put 14 = .ok (.iload 4, 2) := by decide +kernel
theorem dX11_put_16 : decode cX11_put 16 = .ok (.iconst 0, 1) := by decide +kernel
theorem dX11_put_17 : decode cX11_put 17 = .ok (.bipush 9, 2) := by decide +kernel
theorem dX11_put_19 : decode cX11_put 19 = .ok (.invokestatic 96, 3) := by decide +kernel
theorem dX11_put_22 : decode cX11_put 22 = .ok (.aload 5, 2) := by decide +kernel
theorem dX11_put_24 : decode cX11_put 24 = .ok (.iload_n 2, 1) := by decide +kernel
theorem dX11_put_25 : decode cX11_put 25 = .ok (.iload_n 3, 1) := by decide +kernel
theorem dX11_put_26 : decode cX11_put 26 = .ok (.invokevirtual 296, 3) := by decide +kernel
theorem dX11_put_29 : decode cX11_put 29 = .ok (.l2i, 1) := by decide +kernel
theorem dX11_put_30 : decode cX11_put 30 = .ok (.istore 6, 2) := by decide +kernel
theorem dX11_put_32 : decode cX11_put 32 = .ok (.aload 5, 2) := by decide +kernel
theorem dX11_put_34 : decode cX11_put 34 = .ok (.iload_n 2, 1) := by decide +kernel
theorem dX11_put_35 : decode cX11_put 35 = .ok (.iload_n 3, 1) := by decide +kernel
theorem dX11_put_36 : decode cX11_put 36 = .ok (.iload 4, 2) := by decide +kernel
theorem dX11_put_38 : decode cX11_put 38 = .ok (.i2l, 1) := by decide +kernel
theorem dX11_put_39 : decode cX11_put 39 = .ok (.invokevirtual 299, 3) := by decide +kernel
theorem dX11_put_42 : decode cX11_put 42 = .ok (.iload 6, 2) := by decide +kernel
theorem dX11_put_44 : decode cX11_put 44 = .ok (.ireturn, 1) := by decide +kernel
theorem dX11_series_0 : decode cX11_series 0 = .ok (.aload_n 0, 1) := by decide +kernel
theorem dX11_series_1 : decode cX11_series 1 = .ok (.iload_n 1, 1) := by decide +kernel
theorem dX11_series_2 : decode cX11_series 2 = .ok (.invokevirtual 110, 3) := by decide +kernel
theorem dX11_series_5 : decode cX11_series 5 = .ok (.astore_n 3, 1) := by decide +kernel
theorem dX11_series_6 : decode cX11_series 6 = .ok (.iload_n 2, 1) := by decide +kernel
theorem dX11_series_7 : decode cX11_series 7 = .ok (.iconst 0, 1) := by decide +kernel
theorem dX11_series_8 : decode cX11_series 8 = .ok (.bipush 24, 2) := by decide +kernel
theorem dX11_series_10 : decode cX11_series 10 = .ok (.invokestatic 96, 3) := by decide +kernel
theorem dX11_series_13 : decode cX11_series 13 = .ok (.aload_n 3, 1) := by decide +kernel
theorem dX11_series_14 : decode cX11_series 14 = .ok (.invokevirtual 156, 3) := by decide +kernel
theorem dX11_series_17 : decode cX11_series 17 = .ok (.invokestatic 160, 3) := by decide +kernel
theorem dX11_series_20 : decode cX11_series 20 = .ok (.bipush 12, 2) := by decide +kernel
theorem dX11_series_22 : decode cX11_series 22 = .ok (.if_icmp .le 13, 3) := by decide +kernel
theorem dX11_series_25 : decode cX11_series 25 = .ok (.new 142, 3) := by decide +kernel
theorem dX11_series_28 : decode cX11_series 28 = .ok (.dup, 1) := by decide +kernel
theorem dX11_series_29 : decode cX11_series 29 = .ok (.ldc 219, 2) := by decide +kernel
theorem dX11_series_31 : decode cX11_series 31 = .ok (.invokespecial 146, 3) := by decide +kernel
theorem dX11_series_34 : decode cX11_series 34 = .ok (.athrow, 1) := by decide +kernel
theorem dX11_series_35 : decode cX11_series 35 = .ok (.aload_n 0, 1) := by decide +kernel
theorem dX11_series_36 : decode cX11_series 36 = .ok (.getfield 51, 3) := by decide +kernel
theorem dX11_series_39 : decode cX11_series 39 = .ok (.aload_n 3, 1) := by decide +kernel
theorem dX11_series_40 : decode cX11_series 40 = .ok (.iload_n 2, 1) := by decide +kernel
theorem dX11_series_41 : decode cX11_series 41 = .ok (.invokevirtual 221, 3) := by decide +kernel
theorem dX11_series_44 : decode cX11_series 44 = .ok (.lreturn, 1) := by decide +kernel
theorem dX11_set_0 : decode cX11_set 0 = .ok (.aload_n 0, 1) := by decide +kernel
theorem dX11_set_1 : decode cX11_set 1 = .ok (.iload_n 1, 1) := by decide +kernel
theorem dX11_set_2 : decode cX11_set 2 = .ok (.invokevirtual 239, 3) := by decide +kernel
theorem dX11_set_5 : decode cX11_set 5 = .ok (.astore 5, 2) := by decide +kernel
theorem dX11_set_7 : decode cX11_set 7 = .ok (.iload_n 2, 1) := by decide +kernel
theorem dX11_set_8 : decode cX11_set 8 = .ok (.invokestatic 114, 3) := by decide +kernel
theorem dX11_set_11 : decode cX11_set 11 = .ok (.istore 6, 2) := by decide +kernel
theorem dX11_set_13 : decode cX11_set 13 = .ok (.iload_n 3, 1) := by decide +kernel
theorem dX11_set_14 : decode cX11_set 14 = .ok (.invokestatic 114, 3) := by decide +kernel
theorem dX11_set_17 : decode cX11_set 17 = .ok (.istore 7, 2) := by decide +kernel
theorem dX11_set_19 : decode cX11_set 19 = .ok (.iload 4, 2) := by decide +kernel
theorem dX11_set_21 : decode cX11_set 21 = .ok (.invokestatic 114, 3) := by decide +kernel
theorem dX11_set_24 : decode cX11_set 24 = .ok (.istore 8, 2) := by decide +kernel
theorem dX11_set_26 : decode cX11_set 26 = .ok (.aload 5, 2) := by decide +kernel
theorem dX11_set_28 : decode cX11_set 28 = .ok (.iload 6, 2) := by decide +kernel
theorem dX11_set_30 : decode cX11_set 30 = .ok (.invokevirtual 243, 3) := by decide +kernel
theorem dX11_set_33 : decode cX11_set 33 = .ok (.ifCond .eq 23, 3) := by decide +kernel
theorem dX11_set_36 : decode cX11_set 36 = .ok (.aload 5, 2) := by decide +kernel
theorem dX11_set_38 : decode cX11_set 38 = .ok (.iload 7, 2) := by decide +kernel
theorem dX11_set_40 : decode cX11_set 40 = .ok (.invokevirtual 243, 3) := by decide +kernel
theorem dX11_set_43 : decode cX11_set 43 = .ok (.ifCond .eq 13, 3) := by decide +kernel
theorem dX11_set_46 : decode cX11_set 46 = .ok (.aload 5, 2) := by decide +kernel
theorem dX11_set_48 : decode cX11_set 48 = .ok (.iload 8, 2) := by decide +kernel
theorem dX11_set_50 : decode cX11_set 50 = .ok (.invokevirtual 243, 3) := by decide +kernel
theorem dX11_set_53 : decode cX11_set 53 = .ok (.ifCond .ne 13, 3) := by decide +kernel
theorem dX11_set_56 : decode cX11_set 56 = .ok (.new 73, 3) := by decide +kernel
theorem dX11_set_59 : decode cX11_set 59 = .ok (.dup, 1) := by decide +kernel
theorem dX11_set_60 : decode cX11_set 60 = .ok (.ldc 244, 2) := by decide +kernel
theorem dX11_set_62 : decode cX11_set 62 = .ok (.invokespecial 77, 3) := by decide +kernel
theorem dX11_set_65 : decode cX11_set 65 = .ok (.athrow, 1) := by decide +kernel
theorem dX11_set_66 : decode cX11_set 66 = .ok (.aload 5, 2) := by decide +kernel
theorem dX11_set_68 : decode cX11_set 68 = .ok (.iload 6, 2) := by decide +kernel
theorem dX11_set_70 : decode cX11_set 70 = .ok (.iload 7, 2) := by decide +kernel
theorem dX11_set_72 : decode cX11_set 72 = .ok (.invokevirtual 246, 3) := by decide +kernel
theorem dX11_set_75 : decode cX11_set 75 = .ok (.istore 9, 2) := by decide +kernel
theorem dX11_set_77 : decode cX11_set 77 = .ok (.aload 5, 2) := by decide +kernel
theorem dX11_set_79 : decode cX11_set 79 = .ok (.iload 6, 2) := by decide +kernel
theorem dX11_set_81 : decode cX11_set 81 = .ok (.iload 7, 2) := by decide +kernel
theorem dX11_set_83 : decode cX11_set 83 = .ok (.iload 8, 2) := by decide +kernel
theorem dX11_set_85 : decode cX11_set 85 = .ok (.invokevirtual 249, 3) := by decide +kernel
theorem dX11_set_88 : decode cX11_set 88 = .ok (.iload 9, 2) := by decide +kernel
theorem dX11_set_90 : decode cX11_set 90 = .ok (.invokestatic 252, 3) := by decide +kernel
theorem dX11_set_93 : decode cX11_set 93 = .ok (.ireturn, 1) := by decide +kernel
theorem dX11_shift_0 : decode cX11_shift 0 = .ok (.iload_n 1, 1) := by decide +kernel
theorem dX11_shift_1 : decode cX11_shift 1 = .ok (.iconst 1, 1) := by decide +kernel
theorem dX11_shift_2 : decode cX11_shift 2 = .ok (.bipush 12, 2) := by decide +kernel
theorem dX11_shift_4 : decode cX11_shift 4 = .ok (.invokestatic 96, 3) := by decide +kernel
theorem dX11_shift_7 : decode cX11_shift 7 = .ok (.iload_n 2, 1) := by decide +kernel
theorem dX11_shift_8 : decode cX11_shift 8 = .ok (.iconst 2, 1) := by decide +kernel
theorem dX11_shift_9 : decode cX11_shift 9 = .ok (.iconst 3, 1) := by decide +kernel
theorem dX11_shift_10 : decode cX11_shift 10 = .ok (.invokestatic 96, 3) := by decide +kernel
theorem dX11_shift_13 : decode cX11_shift 13 = .ok (.aload_n 0, 1) := by decide +kernel
theorem dX11_shift_14 : decode cX11_shift 14 = .ok (.invokevirtual 100, 3) := by decide +kernel
theorem dX11_shift_17 : decode cX11_shift 17 = .ok (.aload_n 0, 1) := by decide +kernel
theorem dX11_shift_18 : decode cX11_shift 18 = .ok (.new 16, 3) := by decide +kernel
theorem dX11_shift_21 : decode cX11_shift 21 = .ok (.dup, 1) := by decide +kernel
theorem dX11_shift_22 : decode cX11_shift 22 = .ok (.iload_n 1, 1) := by decide +kernel
theorem dX11_shift_23 : decode cX11_shift 23 = .ok (.iload_n 2, 1) := by decide +kernel
theorem dX11_shift_24 : decode cX11_shift 24 = .ok (.invokespecial 103, 3) := by decide +kernel
theorem dX11_shift_27 : decode cX11_shift 27 = .ok (.invokevirtual 106, 3) := by decide +kernel
theorem dX11_shift_30 : decode cX11_shift 30 = .ok (.ireturn, 1) := by decide +kernel
theorem dX11_shiftAt_0 : decode cX11_shiftAt 0 = .ok (.aload_n 0, 1) := by decide +kernel
theorem dX11_shiftAt_1 : decode cX11_shiftAt 1 = .ok (.iload_n 1, 1) := by decide +kernel
theorem dX11_shiftAt_2 : decode cX11_shiftAt 2 = .ok (.invokevirtual 400, 3) := by decide +kernel
theorem dX11_shiftAt_5 : decode cX11_shiftAt 5 = .ok (.astore_n 2, 1) := by decide +kernel
theorem dX11_shiftAt_6 : decode cX11_shiftAt 6 = .ok (.aload_n 2, 1) := by decide +kernel
theorem dX11_shiftAt_7 : decode cX11_shiftAt 7 = .ok (.ifnonnull 14, 3) := by decide +kernel
theorem dX11_shiftAt_10 : decode cX11_shiftAt 10 = .ok (.new 424, 3) := by decide +kernel
theorem dX11_shiftAt_13 : decode cX11_shiftAt 13 = .ok (.dup, 1) := by decide +kernel
theorem dX11_shiftAt_14 : decode cX11_shiftAt 14 = .ok (.ldc_w 426, 3) := by decide +kernel
theorem dX11_shiftAt_17 : decode cX11_shiftAt 17 = .ok (.invokespecial 428, 3) := by decide +kernel
theorem dX11_shiftAt_20 : decode cX11_shiftAt 20 = .ok (.athrow, 1) := by decide +kernel
theorem dX11_shiftAt_21 : decode cX11_shiftAt 21 = .ok (.aload_n 2, 1) := by decide +kernel
theorem dX11_shiftAt_22 : decode cX11_shiftAt 22 = .ok (.areturn, 1) := by decide +kernel
theorem dX11_shiftOrNull_0 : decode cX11_shiftOrNull 0 = .ok (.iload_n 1, 1) := by decide +kernel
theorem dX11_shiftOrNull_1 : decode cX11_shiftOrNull 1 = .ok (.ifCond .lt 29, 3) := by decide +kernel
theorem dX11_shiftOrNull_4 : decode cX11_shiftOrNull 4 = .ok (.iload_n 1, 1) := by decide +kernel
theorem dX11_shiftOrNull_5 : decode cX11_shiftOrNull 5 = .ok (.aload_n 0, 1) := by decide +kernel
theorem dX11_shiftOrNull_6 : decode cX11_shiftOrNull 6 = .ok (.getfield 397, 3) := by decide +kernel
theorem dX11_shiftOrNull_9 : decode cX11_shiftOrNull 9 = .ok (.if_icmp .ge 21, 3) := by decide +kernel
theorem dX11_shiftOrNull_12 : decode cX11_shiftOrNull 12 = .ok (.iload_n 1, 1) := by decide +kernel
theorem dX11_shiftOrNull_13 : decode cX11_shiftOrNull 13 = .ok (.aload_n 0, 1) := by decide +kernel
theorem dX11_shiftOrNull_14 : decode cX11_shiftOrNull 14 = .ok (.getfield 18, 3) := by decide +kernel
theorem dX11_shiftOrNull_17 : decode cX11_shiftOrNull 17 = .ok (.arraylength, 1) := by decide +kernel
theorem dX11_shiftOrNull_18 : decode cX11_shiftOrNull 18 = .ok (.if_icmp .ge 12, 3) := by decide +kernel
theorem dX11_shiftOrNull_21 : decode cX11_shiftOrNull 21 = .ok (.aload_n 0, 1) := by decide +kernel
theorem dX11_shiftOrNull_22 : decode cX11_shiftOrNull 22 = .ok (.getfield 18, 3) := by decide +kernel
theorem dX11_shiftOrNull_25 : decode cX11_shiftOrNull 25 = .ok (.iload_n 1, 1) := by decide +kernel
theorem dX11_shiftOrNull_26 : decode cX11_shiftOrNull 26 = .ok (.aaload, 1) := by decide +kernel
theorem dX11_shiftOrNull_27 : decode cX11_shiftOrNull 27 = .ok (.goto 4, 3) := by decide +kernel
theorem dX11_shiftOrNull_30 : decode cX11_shiftOrNull 30 = .ok (.aconst_null, 1) := by decide +kernel
theorem dX11_shiftOrNull_31 : decode cX11_shiftOrNull 31 = .ok (.areturn, 1) := by decide +kernel
theorem dX11_signAt_0 : decode cX11_signAt 0 = .ok (.iload_n 1, 1) := by decide +kernel
theorem dX11_signAt_1 : decode cX11_signAt 1 = .ok (.ifCond .lt 14, 3) := by decide +kernel
theorem dX11_signAt_4 : decode cX11_signAt 4 = .ok (.iload_n 1, 1) := by decide +kernel
theorem dX11_signAt_5 : decode cX11_signAt 5 = .ok (.aload_n 0, 1) := by decide +kernel
theorem dX11_signAt_6 : decode cX11_signAt 6 = .ok (.getfield 10, 3) := by decide +kernel
theorem dX11_signAt_9 : decode cX11_signAt 9 = .ok (.getfield 80, 3) := by decide +kernel
theorem dX11_signAt_12 : decode cX11_signAt 12 = .ok (.if_icmp .lt 13, 3) := by decide +kernel
theorem dX11_signAt_15 : decode cX11_signAt 15 = .ok (.new 193, 3) := by decide +kernel
theorem dX11_signAt_18 : decode cX11_signAt 18 = .ok (.dup, 1) := by decide +kernel
theorem dX11_signAt_19 : decode cX11_signAt 19 = .ok (.ldc 75, 2) := by decide +kernel
theorem dX11_signAt_21 : decode cX11_signAt 21 = .ok (.invokespecial 197, 3) := by decide +kernel
theorem dX11_signAt_24 : decode cX11_signAt 24 = .ok (.athrow, 1) := by decide +kernel
theorem dX11_signAt_25 : decode cX11_signAt 25 = .ok (.aload_n 0, 1) := by decide +kernel
theorem dX11_signAt_26 : decode cX11_signAt 26 = .ok (.getfield 10, 3) := by decide +kernel
theorem dX11_signAt_29 : decode cX11_signAt 29 = .ok (.iload_n 1, 1) := by decide +kernel
theorem dX11_signAt_30 : decode cX11_signAt 30 = .ok (.invokevirtual 263, 3) := by decide +kernel
theorem dX11_signAt_33 : decode cX11_signAt 33 = .ok (.ireturn, 1) := by decide +kernel
theorem dX11_slide_0 : decode cX11_slide 0 = .ok (.aload_n 0, 1) := by decide +kernel
theorem dX11_slide_1 : decode cX11_slide 1 = .ok (.iload_n 1, 1) := by decide +kernel
theorem dX11_slide_2 : decode cX11_slide 2 = .ok (.invokevirtual 239, 3) := by decide +kernel
theorem dX11_slide_5 : decode cX11_slide 5 = .ok (.astore_n 2, 1) := by decide +kernel
theorem dX11_slide_6 : decode cX11_slide 6 = .ok (.aload_n 0, 1) := by decide +kernel
theorem dX11_slide_7 : decode cX11_slide 7 = .ok (.getfield 10, 3) := by decide +kernel
theorem dX11_slide_10 : decode cX11_slide 10 = .ok (.getfield 80, 3) := by decide +kernel
theorem dX11_slide_13 : decode cX11_slide 13 = .ok (.iconst 2, 1) := by decide +kernel
theorem dX11_slide_14 : decode cX11_slide 14 = .ok (.if_icmp .lt 17, 3) := by decide +kernel
theorem dX11_slide_17 : decode cX11_slide 17 = .ok (.aload_n 0, 1) := by decide +kernel
theorem dX11_slide_18 : decode cX11_slide 18 = .ok (.getfield 10, 3) := by decide +kernel
theorem dX11_slide_21 : decode cX11_slide 21 = .ok (.aload_n 2, 1) := by decide +kernel
theorem dX11_slide_22 : decode cX11_slide 22 = .ok (.getfield 256, 3) := by decide +kernel
theorem dX11_slide_25 : decode cX11_slide 25 = .ok (.invokevirtual 173, 3) := by decide +kernel
theorem dX11_slide_28 : decode cX11_slide 28 = .ok (.ifCond .ne 14, 3) := by decide +kernel
theorem dX11_slide_31 : decode cX11_slide 31 = .ok (.new 142, 3) := by decide +kernel
theorem dX11_slide_34 : decode cX11_slide 34 = .ok (.dup, 1) := by decide +kernel
theorem dX11_slide_35 : decode cX11_slide 35 = .ok (.ldc_w 257, 3) := by decide +kernel
theorem dX11_slide_38 : decode cX11_slide 38 = .ok (.invokespecial 146, 3) := by decide +kernel
theorem dX11_slide_41 : decode cX11_slide 41 = .ok (.athrow, 1) := by decide +kernel
theorem dX11_slide_42 : decode cX11_slide 42 = .ok (.aload_n 0, 1) := by decide +kernel
theorem dX11_slide_43 : decode cX11_slide 43 = .ok (.getfield 10, 3) := by decide +kernel
theorem dX11_slide_46 : decode cX11_slide 46 = .ok (.aload_n 2, 1) := by decide +kernel
theorem dX11_slide_47 : decode cX11_slide 47 = .ok (.invokevirtual 259, 3) := by decide +kernel
theorem dX11_slide_50 : decode cX11_slide 50 = .ok (.aload_n 0, 1) := by decide +kernel
theorem dX11_slide_51 : decode cX11_slide 51 = .ok (.getfield 10, 3) := by decide +kernel
theorem dX11_slide_54 : decode cX11_slide 54 = .ok (.getfield 80, 3) := by decide +kernel
theorem dX11_slide_57 : decode cX11_slide 57 = .ok (.ireturn, 1) := by decide +kernel
theorem dX11_split_0 : decode cX11_split 0 = .ok (.aload_n 0, 1) := by decide +kernel
theorem dX11_split_1 : decode cX11_split 1 = .ok (.iload_n 1, 1) := by decide +kernel
theorem dX11_split_2 : decode cX11_split 2 = .ok (.invokevirtual 288, 3) := by decide +kernel
theorem dX11_split_5 : decode cX11_split 5 = .ok (.astore 5, 2) := by decide +kernel
theorem dX11_split_7 : decode cX11_split 7 = .ok (.aload 5, 2) := by decide +kernel
theorem dX11_split_9 : decode cX11_split 9 = .ok (.iload_n 2, 1) := by decide +kernel
theorem dX11_split_10 : decode cX11_split 10 = .ok (.iload_n 3, 1) := by decide +kernel
theorem dX11_split_11 : decode cX11_split 11 = .ok (.invokestatic 292, 3) := by decide +kernel
theorem dX11_split_14 : decode cX11_split 14 = .ok (.iload 4, 2) := by decide +kernel
theorem dX11_split_16 : decode cX11_split 16 = .ok (.ifCond .lt 17, 3) := by decide +kernel
theorem dX11_split_19 : decode cX11_split 19 = .ok (.iload 4, 2) := by decide +kernel
theorem dX11_split_21 : decode cX11_split 21 = .ok (.i2l, 1) := by decide +kernel
theorem dX11_split_22 : decode cX11_split 22 = .ok (.aload 5, 2) := by decide +kernel
theorem dX11_split_24 : decode cX11_split 24 = .ok (.iload_n 2, 1) := by decide +kernel
theorem dX11_split_25 : decode cX11_split 25 = .ok (.iload_n 3, 1) := by decide +kernel
theorem dX11_split_26 : decode cX11_split 26 = .ok (.invokevirtual 296, 3) := by decide +kernel
theorem dX11_split_29 : decode cX11_split 29 = .ok (.lcmp, 1) := by decide +kernel
theorem dX11_split_30 : decode cX11_split 30 = .ok (.ifCond .le 14, 3) := by decide +kernel
theorem dX11_split_33 : decode cX11_split 33 = .ok (.new 73, 3) := by decide +kernel
theorem dX11_split_36 : decode cX11_split 36 = .ok (.dup, 1) := by decide +kernel
theorem dX11_split_37 : decode cX11_split 37 = .ok (.ldc_w 303, 3) := by decide +kernel
theorem dX11_split_40 : decode cX11_split 40 = .ok (.invokespecial 77, 3) := by decide +kernel
theorem dX11_split_43 : decode cX11_split 43 = .ok (.athrow, 1) := by decide +kernel
theorem dX11_split_44 : decode cX11_split 44 = .ok (.aload 5, 2) := by decide +kernel
theorem dX11_split_46 : decode cX11_split 46 = .ok (.invokestatic 305, 3) := by decide +kernel
theorem dX11_split_49 : decode cX11_split 49 = .ok (.aload 5, 2) := by decide +kernel
theorem dX11_split_51 : decode cX11_split 51 = .ok (.getfield 309, 3) := by decide +kernel
theorem dX11_split_54 : decode cX11_split 54 = .ok (.iconst 5, 1) := by decide +kernel
theorem dX11_split_55 : decode cX11_split 55 = .ok (.if_icmp .lt 14, 3) := by decide +kernel
theorem dX11_split_58 : decode cX11_split 58 = .ok (.new 84, 3) := by decide +kernel
theorem dX11_split_61 : decode cX11_split 61 = .ok (.dup, 1) := by decide +kernel
theorem dX11_split_62 : decode cX11_split 62 = .ok (.ldc_w 312, 3) := by decide +kernel
theorem dX11_split_65 : decode cX11_split 65 = .ok (.invokespecial 88, 3) := by decide +kernel
theorem dX11_split_68 : decode cX11_split 68 = .ok (.athrow, 1) := by decide +kernel
theorem dX11_split_69 : decode cX11_split 69 = .ok (.aload 5, 2) := by decide +kernel
theorem dX11_split_71 : decode cX11_split 71 = .ok (.iload_n 2, 1) := by decide +kernel
theorem dX11_split_72 : decode cX11_split 72 = .ok (.iload_n 3, 1) := by decide +kernel
theorem dX11_split_73 : decode cX11_split 73 = .ok (.iload 4, 2) := by decide +kernel
theorem dX11_split_75 : decode cX11_split 75 = .ok (.i2l, 1) := by decide +kernel
theorem dX11_split_76 : decode cX11_split 76 = .ok (.invokevirtual 314, 3) := by decide +kernel
theorem dX11_split_79 : decode cX11_split 79 = .ok (.aload 5, 2) := by decide +kernel
theorem dX11_split_81 : decode cX11_split 81 = .ok (.getfield 309, 3) := by decide +kernel
theorem dX11_split_84 : decode cX11_split 84 = .ok (.ireturn, 1) := by decide +kernel
theorem dX11_states_0 : decode cX11_states 0 = .ok (.aload_n 0, 1) := by decide +kernel
theorem dX11_states_1 : decode cX11_states 1 = .ok (.iload_n 1, 1) := by decide +kernel
theorem dX11_states_2 : decode cX11_states 2 = .ok (.invokevirtual 110, 3) := by decide +kernel
theorem dX11_states_5 : decode cX11_states 5 = .ok (.invokevirtual 156, 3) := by decide +kernel
theorem dX11_states_8 : decode cX11_states 8 = .ok (.invokestatic 160, 3) := by decide +kernel
theorem dX11_states_11 : decode cX11_states 11 = .ok (.ireturn, 1) := by decide +kernel
theorem dX11_trace_0 : decode cX11_trace 0 = .ok (.aload_n 0, 1) := by decide +kernel
theorem dX11_trace_1 : decode cX11_trace 1 = .ok (.iload_n 1, 1) := by decide +kernel
theorem dX11_trace_2 : decode cX11_trace 2 = .ok (.invokevirtual 288, 3) := by decide +kernel
theorem dX11_trace_5 : decode cX11_trace 5 = .ok (.astore_n 3, 1) := by decide +kernel
theorem dX11_trace_6 : decode cX11_trace 6 = .ok (.iload_n 2, 1) := by decide +kernel
theorem dX11_trace_7 : decode cX11_trace 7 = .ok (.iconst 1, 1) := by decide +kernel
theorem dX11_trace_8 : decode cX11_trace 8 = .ok (.bipush 8, 2) := by decide +kernel
theorem dX11_trace_10 : decode cX11_trace 10 = .ok (.invokestatic 96, 3) := by decide +kernel
theorem dX11_trace_13 : decode cX11_trace 13 = .ok (.aload_n 3, 1) := by decide +kernel
theorem dX11_trace_14 : decode cX11_trace 14 = .ok (.invokestatic 305, 3) := by decide +kernel
theorem dX11_trace_17 : decode cX11_trace 17 = .ok (.aload_n 0, 1) := by decide +kernel
theorem dX11_trace_18 : decode cX11_trace 18 = .ok (.getfield 51, 3) := by decide +kernel
theorem dX11_trace_21 : decode cX11_trace 21 = .ok (.aload_n 3, 1) := by decide +kernel
theorem dX11_trace_22 : decode cX11_trace 22 = .ok (.iload_n 2, 1) := by decide +kernel
theorem dX11_trace_23 : decode cX11_trace 23 = .ok (.invokevirtual 341, 3) := by decide +kernel
theorem dX11_trace_26 : decode cX11_trace 26 = .ok (.invokevirtual 345, 3) := by decide +kernel
theorem dX11_trace_29 : decode cX11_trace 29 = .ok (.lreturn, 1) := by decide +kernel
theorem dX11_type_0 : decode cX11_type 0 = .ok (.iload_n 1, 1) := by decide +kernel
theorem dX11_type_1 : decode cX11_type 1 = .ok (.invokestatic 69, 3) := by decide +kernel
theorem dX11_type_4 : decode cX11_type 4 = .ok (.ifCond .ne 13, 3) := by decide +kernel
theorem dX11_type_7 : decode cX11_type 7 = .ok (.new 73, 3) := by decide +kernel
theorem dX11_type_10 : decode cX11_type 10 = .ok (.dup, 1) := by decide +kernel
theorem dX11_type_11 : decode cX11_type 11 = .ok (.ldc 75, 2) := by decide +kernel
theorem dX11_type_13 : decode cX11_type 13 = .ok (.invokespecial 77, 3) := by decide +kernel
theorem dX11_type_16 : decode cX11_type 16 = .ok (.athrow, 1) := by decide +kernel
theorem dX11_type_17 : decode cX11_type 17 = .ok (.aload_n 0, 1) := by decide +kernel
theorem dX11_type_18 : decode cX11_type 18 = .ok (.getfield 10, 3) := by decide +kernel
theorem dX11_type_21 : decode cX11_type 21 = .ok (.getfield 80, 3) := by decide +kernel
theorem dX11_type_24 : decode cX11_type 24 = .ok (.bipush 40, 2) := by decide +kernel
theorem dX11_type_26 : decode cX11_type 26 = .ok (.if_icmp .lt 13, 3) := by decide +kernel
theorem dX11_type_29 : decode cX11_type 29 = .ok (.new 84, 3) := by decide +kernel
theorem dX11_type_32 : decode cX11_type 32 = .ok (.dup, 1) := by decide +kernel
theorem dX11_type_33 : decode cX11_type 33 = .ok (.ldc 86, 2) := by decide +kernel
theorem dX11_type_35 : decode cX11_type 35 = .ok (.invokespecial 88, 3) := by decide +kernel
theorem dX11_type_38 : decode cX11_type 38 = .ok (.athrow, 1) := by decide +kernel
theorem dX11_type_39 : decode cX11_type 39 = .ok (.aload_n 0, 1) := by decide +kernel
theorem dX11_type_40 : decode cX11_type 40 = .ok (.getfield 10, 3) := by decide +kernel
theorem dX11_type_43 : decode cX11_type 43 = .ok (.iload_n 1, 1) := by decide +kernel
theorem dX11_type_44 : decode cX11_type 44 = .ok (.invokevirtual 89, 3) := by decide +kernel
theorem dX11_type_47 : decode cX11_type 47 = .ok (.aload_n 0, 1) := by decide +kernel
theorem dX11_type_48 : decode cX11_type 48 = .ok (.getfield 10, 3) := by decide +kernel
theorem dX11_type_51 : decode cX11_type 51 = .ok (.getfield 80, 3) := by decide +kernel
theorem dX11_type_54 : decode cX11_type 54 = .ok (.ireturn, 1) := by decide +kernel
theorem dX11_words_0 : decode cX11_words 0 = .ok (.aload_n 0, 1) := by decide +kernel
theorem dX11_words_1 : decode cX11_words 1 = .ok (.iload_n 1, 1) := by decide +kernel
theorem dX11_words_2 : decode cX11_words 2 = .ok (.invokevirtual 110, 3) := by decide +kernel
theorem dX11_words_5 : decode cX11_words 5 = .ok (.astore_n 3, 1) := by decide +kernel
theorem dX11_words_6 : decode cX11_words 6 = .ok (.iload_n 2, 1) := by decide +kernel
theorem dX11_words_7 : decode cX11_words 7 = .ok (.iconst 0, 1) := by decide +kernel
theorem dX11_words_8 : decode cX11_words 8 = .ok (.bipush 10, 2) := by decide +kernel
theorem dX11_words_10 : decode cX11_words 10 = .ok (.invokestatic 96, 3) := by decide +kernel
theorem dX11_words_13 : decode cX11_words 13 = .ok (.aload_n 0, 1) := by decide +kernel
theorem dX11_words_14 : decode cX11_words 14 = .ok (.getfield 37, 3) := by decide +kernel
theorem dX11_words_17 : decode cX11_words 17 = .ok (.aload_n 3, 1) := by decide +kernel
theorem dX11_words_18 : decode cX11_words 18 = .ok (.iload_n 2, 1) := by decide +kernel
theorem dX11_words_19 : decode cX11_words 19 = .ok (.invokevirtual 166, 3) := by decide +kernel
theorem dX11_words_22 : decode cX11_words 22 = .ok (.ireturn, 1) := by decide +kernel
theorem dX1_give_0 : decode cX1_give 0 = .ok (.iconst 3, 1) := by decide +kernel
theorem dX1_give_1 : decode cX1_give 1 = .ok (.iload_n 1, 1) := by decide +kernel
theorem dX1_give_2 : decode cX1_give 2 = .ok (.imul, 1) := by decide +kernel
theorem dX1_give_3 : decode cX1_give 3 = .ok (.iload_n 2, 1) := by decide +kernel
theorem dX1_give_4 : decode cX1_give 4 = .ok (.iadd, 1) := by decide +kernel
theorem dX1_give_5 : decode cX1_give 5 = .ok (.istore 4, 2) := by decide +kernel
theorem dX1_give_7 : decode cX1_give 7 = .ok (.aload_n 0, 1) := by decide +kernel
theorem dX1_give_8 : decode cX1_give 8 = .ok (.iload_n 1, 1) := by decide +kernel
theorem dX1_give_9 : decode cX1_give 9 = .ok (.invokevirtual 19, 3) := by decide +kernel
theorem dX1_give_12 : decode cX1_give 12 = .ok (.ifCond .eq 29, 3) := by decide +kernel
theorem dX1_give_15 : decode cX1_give 15 = .ok (.aload_n 0, 1) := by decide +kernel
theorem dX1_give_16 : decode cX1_give 16 = .ok (.iload_n 2, 1) := by decide +kernel
theorem dX1_give_17 : decode cX1_give 17 = .ok (.invokevirtual 19, 3) := by decide +kernel
theorem dX1_give_20 : decode cX1_give 20 = .ok (.ifCond .eq 21, 3) := by decide +kernel
theorem dX1_give_23 : decode cX1_give 23 = .ok (.iload 4, 2) := by decide +kernel
theorem dX1_give_25 : decode cX1_give 25 = .ok (.aload_n 0, 1) := by decide +kernel
theorem dX1_give_26 : decode cX1_give 26 = .ok (.getfield 15, 3) := by decide +kernel
theorem dX1_give_29 : decode cX1_give 29 = .ok (.arraylength, 1) := by decide +kernel
theorem dX1_give_30 : decode cX1_give 30 = .ok (.if_icmp .ge 11, 3) := by decide +kernel
theorem dX1_give_33 : decode cX1_give 33 = .ok (.aload_n 0, 1) := by decide +kernel
theorem dX1_give_34 : decode cX1_give 34 = .ok (.getfield 15, 3) := by decide +kernel
theorem dX1_give_37 : decode cX1_give 37 = .ok (.iload 4, 2) := by decide +kernel
theorem dX1_give_39 : decode cX1_give 39 = .ok (.iload_n 3, 1) := by decide +kernel
theorem dX1_give_40 : decode cX1_give 40 = .ok (.iastore, 1) := by decide +kernel
theorem dX1_give_41 : decode cX1_give 41 = .ok (.return_, 1) := by decide +kernel
theorem dX1_given_0 : decode cX1_given 0 = .ok (.iconst 3, 1) := by decide +kernel
theorem dX1_given_1 : decode cX1_given 1 = .ok (.iload_n 1, 1) := by decide +kernel
theorem dX1_given_2 : decode cX1_given 2 = .ok (.imul, 1) := by decide +kernel
theorem dX1_given_3 : decode cX1_given 3 = .ok (.iload_n 2, 1) := by decide +kernel
theorem dX1_given_4 : decode cX1_given 4 = .ok (.iadd, 1) := by decide +kernel
theorem dX1_given_5 : decode cX1_given 5 = .ok (.istore_n 3, 1) := by decide +kernel
theorem dX1_given_6 : decode cX1_given 6 = .ok (.aload_n 0, 1) := by decide +kernel
theorem dX1_given_7 : decode cX1_given 7 = .ok (.iload_n 1, 1) := by decide +kernel
theorem dX1_given_8 : decode cX1_given 8 = .ok (.invokevirtual 19, 3) := by decide +kernel
theorem dX1_given_11 : decode cX1_given 11 = .ok (.ifCond .eq 29, 3) := by decide +kernel
theorem dX1_given_14 : decode cX1_given 14 = .ok (.aload_n 0, 1) := by decide +kernel
theorem dX1_given_15 : decode cX1_given 15 = .ok (.iload_n 2, 1) := by decide +kernel
theorem dX1_given_16 : decode cX1_given 16 = .ok (.invokevirtual 19, 3) := by decide +kernel
theorem dX1_given_19 : decode cX1_given 19 = .ok (.ifCond .eq 21, 3) := by decide +kernel
theorem dX1_given_22 : decode cX1_given 22 = .ok (.iload_n 3, 1) := by decide +kernel
theorem dX1_given_23 : decode cX1_given 23 = .ok (.aload_n 0, 1) := by decide +kernel
theorem dX1_given_24 : decode cX1_given 24 = .ok (.getfield 15, 3) := by decide +kernel
theorem dX1_given_27 : decode cX1_given 27 = .ok (.arraylength, 1) := by decide +kernel
theorem dX1_given_28 : decode cX1_given 28 = .ok (.if_icmp .ge 12, 3) := by decide +kernel
theorem dX1_given_31 : decode cX1_given 31 = .ok (.aload_n 0, 1) := by decide +kernel
theorem dX1_given_32 : decode cX1_given 32 = .ok (.getfield 15, 3) := by decide +kernel
theorem dX1_given_35 : decode cX1_given 35 = .ok (.iload_n 3, 1) := by decide +kernel
theorem dX1_given_36 : decode cX1_given 36 = .ok (.iaload, 1) := by decide +kernel
theorem dX1_given_37 : decode cX1_given 37 = .ok (.goto 4, 3) := by decide +kernel
theorem dX1_given_40 : decode cX1_given 40 = .ok (.iconst 0, 1) := by decide +kernel
theorem dX1_given_41 : decode cX1_given 41 = .ok (.ireturn, 1) := by decide +kernel
theorem dX1_hasLetter_0 : decode cX1_hasLetter 0 = .ok (.iload_n 1, 1) := by decide +kernel
theorem dX1_hasLetter_1 : decode cX1_hasLetter 1 = .ok (.ifCond .lt 15, 3) := by decide +kernel
theorem dX1_hasLetter_4 : decode cX1_hasLetter 4 = .ok (.iload_n 1, 1) := by decide +kernel
theorem dX1_hasLetter_5 : decode cX1_hasLetter 5 = .ok (.aload_n 0, 1) := by decide +kernel
theorem dX1_hasLetter_6 : decode cX1_hasLetter 6 = .ok (.getfield 9, 3) := by decide +kernel
theorem dX1_hasLetter_9 : decode cX1_hasLetter 9 = .ok (.if_icmp .ge 7, 3) := by decide +kernel
theorem dX1_hasLetter_12 : decode cX1_hasLetter 12 = .ok (.iconst 1, 1) := by decide +kernel
theorem dX1_hasLetter_13 : decode cX1_hasLetter 13 = .ok (.goto 4, 3) := by decide +kernel
theorem dX1_hasLetter_16 : decode cX1_hasLetter 16 = .ok (.iconst 0, 1) := by decide +kernel
theorem dX1_hasLetter_17 : decode cX1_hasLetter 17 = .ok (.ireturn, 1) := by decide +kernel
theorem dX1_init_0 : decode cX1_init 0 = .ok (.aload_n 0, 1) := by decide +kernel
theorem dX1_init_1 : decode cX1_init 1 = .ok (.invokespecial 3, 3) := by decide +kernel
theorem dX1_init_4 : decode cX1_init 4 = .ok (.aload_n 0, 1) := by decide +kernel
theorem dX1_init_5 : decode cX1_init 5 = .ok (.iload_n 1, 1) := by decide +kernel
theorem dX1_init_6 : decode cX1_init 6 = .ok (.putfield 9, 3) := by decide +kernel
theorem dX1_init_9 : decode cX1_init 9 = .ok (.aload_n 0, 1) := by decide +kernel
theorem dX1_init_10 : decode cX1_init 10 = .ok (.bipush 9, 2) := by decide +kernel
theorem dX1_init_12 : decode cX1_init 12 = .ok (.newarray .int, 2) := by decide +kernel
theorem dX1_init_14 : decode cX1_init 14 = .ok (.putfield 15, 3) := by decide +kernel
theorem dX1_init_17 : decode cX1_init 17 = .ok (.return_, 1) := by decide +kernel
theorem dX1_isInBounds_0 : decode cX1_isInBounds 0 = .ok (.aload_n 0, 1) := by decide +kernel
theorem dX1_isInBounds_1 : decode cX1_isInBounds 1 = .ok (.getfield 9, 3) := by decide +kernel
theorem dX1_isInBounds_4 : decode cX1_isInBounds 4 = .ok (.iconst 2, 1) := by decide +kernel
theorem dX1_isInBounds_5 : decode cX1_isInBounds 5 = .ok (.if_icmp .lt 15, 3) := by decide +kernel
theorem dX1_isInBounds_8 : decode cX1_isInBounds 8 = .ok (.aload_n 0, 1) := by decide +kernel
theorem dX1_isInBounds_9 : decode cX1_isInBounds 9 = .ok (.getfield 9, 3) := by decide +kernel
theorem dX1_isInBounds_12 : decode cX1_isInBounds 12 = .ok (.iconst 3, 1) := by decide +kernel
theorem dX1_isInBounds_13 : decode cX1_isInBounds 13 = .ok (.if_icmp .gt 7, 3) := by decide +kernel
theorem dX1_isInBounds_16 : decode cX1_isInBounds 16 = .ok (.iconst 1, 1) := by decide +kernel
theorem dX1_isInBounds_17 : decode cX1_isInBounds 17 = .ok (.goto 4, 3) := by decide +kernel
theorem dX1_isInBounds_20 : decode cX1_isInBounds 20 = .ok (.iconst 0, 1) := by decide +kernel
theorem dX1_isInBounds_21 : decode cX1_isInBounds 21 = .ok (.istore_n 1, 1) := by decide +kernel
theorem dX1_isInBounds_22 : decode cX1_isInBounds 22 = .ok (.iconst 0, 1) := by decide +kernel
theorem dX1_isInBounds_23 : decode cX1_isInBounds 23 = .ok (.istore_n 2, 1) := by decide +kernel
theorem dX1_isInBounds_24 : decode cX1_isInBounds 24 = .ok (.iload_n 2, 1) := by decide +kernel
theorem dX1_isInBounds_25 : decode cX1_isInBounds 25 = .ok (.aload_n 0, 1) := by decide +kernel
theorem dX1_isInBounds_26 : decode cX1_isInBounds 26 = .ok (.getfield 15, 3) := by decide +kernel
theorem dX1_isInBounds_29 : decode cX1_isInBounds 29 = .ok (.arraylength, 1) := by decide +kernel
theorem dX1_isInBounds_30 : decode cX1_isInBounds 30 = .ok (.if_icmp .ge 32, 3) := by decide +kernel
theorem dX1_isInBounds_33 : decode cX1_isInBounds 33 = .ok (.iload_n 1, 1) := by decide +kernel
theorem dX1_isInBounds_34 : decode cX1_isInBounds 34 = .ok (.ifCond .eq 20, 3) := by decide +kernel
theorem dX1_isInBounds_37 : decode cX1_isInBounds 37 = .ok (.aload_n 0, 1) := by decide +kernel
theorem dX1_isInBounds_38 : decode cX1_isInBounds 38 = .ok (.aload_n 0, 1) := by decide +kernel
theorem dX1_isInBounds_39 : decode cX1_isInBounds 39 = .ok (.getfield 15, 3) := by decide +kernel
theorem dX1_isInBounds_42 : decode cX1_isInBounds 42 = .ok (.iload_n 2, 1) := by decide +kernel
theorem dX1_isInBounds_43 : decode cX1_isInBounds 43 = .ok (.iaload, 1) := by decide +kernel
theorem dX1_isInBounds_44 : decode cX1_isInBounds 44 = .ok (.invokevirtual 19, 3) := by decide +kernel
theorem dX1_isInBounds_47 : decode cX1_isInBounds 47 = .ok (.ifCond .eq 7, 3) := by decide +kernel
theorem dX1_isInBounds_50 : decode cX1_isInBounds 50 = .ok (.iconst 1, 1) := by decide +kernel
theorem dX1_isInBounds_51 : decode cX1_isInBounds 51 = .ok (.goto 4, 3) := by decide +kernel
theorem dX1_isInBounds_54 : decode cX1_isInBounds 54 = .ok (.iconst 0, 1) := by decide +kernel
theorem dX1_isInBounds_55 : decode cX1_isInBounds 55 = .ok (.istore_n 1, 1) := by decide +kernel
theorem dX1_isInBounds_56 : decode cX1_isInBounds 56 = .ok (.iinc 2 1, 3) := by decide +kernel
theorem dX1_isInBounds_59 : decode cX1_isInBounds 59 = .ok (.goto (-35), 3) := by decide +kernel
theorem dX1_isInBounds_62 : decode cX1_isInBounds 62 = .ok (.iload_n 1, 1) := by decide +kernel
theorem dX1_isInBounds_63 : decode cX1_isInBounds 63 = .ok (.ireturn, 1) := by decide +kernel
theorem dX2_init_0 : decode cX2_init 0 = .ok (.aload_n 0, 1) := by decide +kernel
theorem dX2_init_1 : decode cX2_init 1 = .ok (.invokespecial 1, 3) := by decide +kernel
theorem dX2_init_4 : decode cX2_init 4 = .ok (.aload_n 0, 1) := by decide +kernel
theorem dX2_init_5 : decode cX2_init 5 = .ok (.sipush 1024, 3) := by decide +kernel
theorem dX2_init_8 : decode cX2_init 8 = .ok (.newarray .int, 2) := by decide +kernel
theorem dX2_init_10 : decode cX2_init 10 = .ok (.putfield 9, 3) := by decide +kernel
theorem dX2_init_13 : decode cX2_init 13 = .ok (.return_, 1) := by decide +kernel
theorem dX3_allTargets_0 : decode cX3_allTargets 0 = .ok (.iconst 0, 1) := by decide +kernel
theorem dX3_allTargets_1 : decode cX3_allTargets 1 = .ok (.istore_n 2, 1) := by decide +kernel
theorem dX3_allTargets_2 : decode cX3_allTargets 2 = .ok (.iconst 0, 1) := by decide +kernel
theorem dX3_allTargets_3 : decode cX3_allTargets 3 = .ok (.istore_n 3, 1) := by decide +kernel
theorem dX3_allTargets_4 : decode cX3_allTargets 4 = .ok (.iload_n 3, 1) := by decide +kernel
theorem dX3_allTargets_5 : decode cX3_allTargets 5 = .ok (.aload_n 0, 1) := by decide +kernel
theorem dX3_allTargets_6 : decode cX3_allTargets 6 = .ok (.getfield 15, 3) := by decide +kernel
theorem dX3_allTargets_9 : decode cX3_allTargets 9 = .ok (.if_icmp .ge 18, 3) := by decide +kernel
theorem dX3_allTargets_12 : decode cX3_allTargets 12 = .ok (.iload_n 2, 1) := by decide +kernel
theorem dX3_allTargets_13 : decode cX3_allTargets 13 = .ok (.aload_n 0, 1) := by decide +kernel
theorem dX3_allTargets_14 : decode cX3_allTargets 14 = .ok (.iload_n 1, 1) := by decide +kernel
theorem dX3_allTargets_15 : decode cX3_allTargets 15 = .ok (.iload_n 3, 1) := by decide +kernel
theorem dX3_allTargets_16 : decode cX3_allTargets 16 = .ok (.invokevirtual 35, 3) := by decide +kernel
theorem dX3_allTargets_19 : decode cX3_allTargets 19 = .ok (.ior, 1) := by decide +kernel
theorem dX3_allTargets_20 : decode cX3_allTargets 20 = .ok (.istore_n 2, 1) := by decide +kernel
theorem dX3_allTargets_21 : decode cX3_allTargets 21 = .ok (.iinc 3 1, 3) := by decide +kernel
theorem dX3_allTargets_24 : decode cX3_allTargets 24 = .ok (.goto (-20), 3) := by decide +kernel
theorem dX3_allTargets_27 : decode cX3_allTargets 27 = .ok (.iload_n 2, 1) := by decide +kernel
theorem dX3_allTargets_28 : decode cX3_allTargets 28 = .ok (.ireturn, 1) := by decide +kernel
theorem dX3_countEdges_0 : decode cX3_countEdges 0 = .ok (.iconst 0, 1) := by decide +kernel
theorem dX3_countEdges_1 : decode cX3_countEdges 1 = .ok (.istore_n 1, 1) := by decide +kernel
theorem dX3_countEdges_2 : decode cX3_countEdges 2 = .ok (.iconst 0, 1) := by decide +kernel
theorem dX3_countEdges_3 : decode cX3_countEdges 3 = .ok (.istore_n 2, 1) := by decide +kernel
theorem dX3_countEdges_4 : decode cX3_countEdges 4 = .ok (.iload_n 2, 1) := by decide +kernel
theorem dX3_countEdges_5 : decode cX3_countEdges 5 = .ok (.aload_n 0, 1) := by decide +kernel
theorem dX3_countEdges_6 : decode cX3_countEdges 6 = .ok (.getfield 18, 3) := by decide +kernel
theorem dX3_countEdges_9 : decode cX3_countEdges 9 = .ok (.arraylength, 1) := by decide +kernel
theorem dX3_countEdges_10 : decode cX3_countEdges 10 = .ok (.if_icmp .ge 21, 3) := by decide +kernel
theorem dX3_countEdges_13 : decode cX3_countEdges 13 = .ok (.iload_n 1, 1) := by decide +kernel
theorem dX3_countEdges_14 : decode cX3_countEdges 14 = .ok (.aload_n 0, 1) := by decide +kernel
theorem dX3_countEdges_15 : decode cX3_countEdges 15 = .ok (.getfield 18, 3) := by decide +kernel
theorem dX3_countEdges_18 : decode cX3_countEdges 18 = .ok (.iload_n 2, 1) := by decide +kernel
theorem dX3_countEdges_19 : decode cX3_countEdges 19 = .ok (.iaload, 1) := by decide +kernel
theorem dX3_countEdges_20 : decode cX3_countEdges 20 = .ok (.invokestatic 29, 3) := by decide +kernel
theorem dX3_countEdges_23 : decode cX3_countEdges 23 = .ok (.iadd, 1) := by decide +kernel
theorem dX3_countEdges_24 : decode cX3_countEdges 24 = .ok (.istore_n 1, 1) := by decide +kernel
theorem dX3_countEdges_25 : decode cX3_countEdges 25 = .ok (.iinc 2 1, 3) := by decide +kernel
theorem dX3_countEdges_28 : decode cX3_countEdges 28 = .ok (.goto (-24), 3) := by decide +kernel
theorem dX3_countEdges_31 : decode cX3_countEdges 31 = .ok (.iload_n 1, 1) := by decide +kernel
theorem dX3_countEdges_32 : decode cX3_countEdges 32 = .ok (.ireturn, 1) := by decide +kernel
theorem dX3_entered_0 : decode cX3_entered 0 = .ok (.iconst 0, 1) := by decide +kernel
theorem dX3_entered_1 : decode cX3_entered 1 = .ok (.istore_n 2, 1) := by decide +kernel
theorem dX3_entered_2 : decode cX3_entered 2 = .ok (.iconst 0, 1) := by decide +kernel
theorem dX3_entered_3 : decode cX3_entered 3 = .ok (.istore_n 3, 1) := by decide +kernel
theorem dX3_entered_4 : decode cX3_entered 4 = .ok (.iload_n 3, 1) := by decide +kernel
theorem dX3_entered_5 : decode cX3_entered 5 = .ok (.aload_n 0, 1) := by decide +kernel
theorem dX3_entered_6 : decode cX3_entered 6 = .ok (.getfield 9, 3) := by decide +kernel
theorem dX3_entered_9 : decode cX3_entered 9 = .ok (.if_icmp .ge 25, 3) := by decide +kernel
theorem dX3_entered_12 : decode cX3_entered 12 = .ok (.iload_n 1, 1) := by decide +kernel
theorem dX3_entered_13 : decode cX3_entered 13 = .ok (.iload_n 3, 1) := by decide +kernel
theorem dX3_entered_14 : decode cX3_entered 14 = .ok (.invokestatic 39, 3) := by decide +kernel
theorem dX3_entered_17 : decode cX3_entered 17 = .ok (.ifCond .eq 11, 3) := by decide +kernel
theorem dX3_entered_20 : decode cX3_entered 20 = .ok (.iload_n 2, 1) := by decide +kernel
theorem dX3_entered_21 : decode cX3_entered 21 = .ok (.aload_n 0, 1) := by decide +kernel
theorem dX3_entered_22 : decode cX3_entered 22 = .ok (.iload_n 3, 1) := by decide +kernel
theorem dX3_entered_23 : decode cX3_entered 23 = .ok (.invokevirtual 49, 3) := by decide +kernel
theorem dX3_entered_26 : decode cX3_entered 26 = .ok (.ior, 1) := by decide +kernel
theorem dX3_entered_27 : decode cX3_entered 27 = .ok (.istore_n 2, 1) := by decide +kernel
theorem dX3_entered_28 : decode cX3_entered 28 = .ok (.iinc 3 1, 3) := by decide +kernel
theorem dX3_entered_31 : decode cX3_entered 31 = .ok (.goto (-27), 3) := by decide +kernel
theorem dX3_entered_34 : decode cX3_entered 34 = .ok (.iload_n 2, 1) := by decide +kernel
theorem dX3_entered_35 : decode cX3_entered 35 = .ok (.ireturn, 1) := by decide +kernel
theorem dX3_hasLetter_0 : decode cX3_hasLetter 0 = .ok (.iload_n 1, 1) := by decide +kernel
theorem dX3_hasLetter_1 : decode cX3_hasLetter 1 = .ok (.ifCond .lt 15, 3) := by decide +kernel
theorem dX3_hasLetter_4 : decode cX3_hasLetter 4 = .ok (.iload_n 1, 1) := by decide +kernel
theorem dX3_hasLetter_5 : decode cX3_hasLetter 5 = .ok (.aload_n 0, 1) := by decide +kernel
theorem dX3_hasLetter_6 : decode cX3_hasLetter 6 = .ok (.getfield 15, 3) := by decide +kernel
theorem dX3_hasLetter_9 : decode cX3_hasLetter 9 = .ok (.if_icmp .ge 7, 3) := by decide +kernel
theorem dX3_hasLetter_12 : decode cX3_hasLetter 12 = .ok (.iconst 1, 1) := by decide +kernel
theorem dX3_hasLetter_13 : decode cX3_hasLetter 13 = .ok (.goto 4, 3) := by decide +kernel
theorem dX3_hasLetter_16 : decode cX3_hasLetter 16 = .ok (.iconst 0, 1) := by decide +kernel
theorem dX3_hasLetter_17 : decode cX3_hasLetter 17 = .ok (.ireturn, 1) := by decide +kernel
theorem dX3_hasState_0 : decode cX3_hasState 0 = .ok (.iload_n 1, 1) := by decide +kernel
theorem dX3_hasState_1 : decode cX3_hasState 1 = .ok (.ifCond .lt 15, 3) := by decide +kernel
theorem dX3_hasState_4 : decode cX3_hasState 4 = .ok (.iload_n 1, 1) := by decide +kernel
theorem dX3_hasState_5 : decode cX3_hasState 5 = .ok (.aload_n 0, 1) := by decide +kernel
theorem dX3_hasState_6 : decode cX3_hasState 6 = .ok (.getfield 9, 3) := by decide +kernel
theorem dX3_hasState_9 : decode cX3_hasState 9 = .ok (.if_icmp .ge 7, 3) := by decide +kernel
theorem dX3_hasState_12 : decode cX3_hasState 12 = .ok (.iconst 1, 1) := by decide +kernel
theorem dX3_hasState_13 : decode cX3_hasState 13 = .ok (.goto 4, 3) := by decide +kernel
theorem dX3_hasState_16 : decode cX3_hasState 16 = .ok (.iconst 0, 1) := by decide +kernel
theorem dX3_hasState_17 : decode cX3_hasState 17 = .ok (.ireturn, 1) := by decide +kernel
theorem dX3_init_0 : decode cX3_init 0 = .ok (.aload_n 0, 1) := by decide +kernel
theorem dX3_init_1 : decode cX3_init 1 = .ok (.invokespecial 3, 3) := by decide +kernel
theorem dX3_init_4 : decode cX3_init 4 = .ok (.aload_n 0, 1) := by decide +kernel
theorem dX3_init_5 : decode cX3_init 5 = .ok (.iload_n 1, 1) := by decide +kernel
theorem dX3_init_6 : decode cX3_init 6 = .ok (.putfield 9, 3) := by decide +kernel
theorem dX3_init_9 : decode cX3_init 9 = .ok (.aload_n 0, 1) := by decide +kernel
theorem dX3_init_10 : decode cX3_init 10 = .ok (.iload_n 2, 1) := by decide +kernel
theorem dX3_init_11 : decode cX3_init 11 = .ok (.putfield 15, 3) := by decide +kernel
theorem dX3_init_14 : decode cX3_init 14 = .ok (.aload_n 0, 1) := by decide +kernel
theorem dX3_init_15 : decode cX3_init 15 = .ok (.bipush 72, 2) := by decide +kernel
theorem dX3_init_17 : decode cX3_init 17 = .ok (.newarray .int, 2) := by decide +kernel
theorem dX3_init_19 : decode cX3_init 19 = .ok (.putfield 18, 3) := by decide +kernel
theorem dX3_init_22 : decode cX3_init 22 = .ok (.return_, 1) := by decide +kernel
theorem dX3_isInBounds_0 : decode cX3_isInBounds 0 = .ok (.aload_n 0, 1) := by decide +kernel
theorem dX3_isInBounds_1 : decode cX3_isInBounds 1 = .ok (.getfield 9, 3) := by decide +kernel
theorem dX3_isInBounds_4 : decode cX3_isInBounds 4 = .ok (.iconst 1, 1) := by decide +kernel
theorem dX3_isInBounds_5 : decode cX3_isInBounds 5 = .ok (.if_icmp .lt 32, 3) := by decide +kernel
theorem dX3_isInBounds_8 : decode cX3_isInBounds 8 = .ok (.aload_n 0, 1) := by decide +kernel
theorem dX3_isInBounds_9 : decode cX3_isInBounds 9 = .ok (.getfield 9, 3) := by decide +kernel
theorem dX3_isInBounds_12 : decode cX3_isInBounds 12 = .ok (.bipush 24, 2) := by decide +kernel
theorem dX3_isInBounds_14 : decode cX3_isInBounds 14 = .ok (.if_icmp .gt 23, 3) := by decide +kernel
theorem dX3_isInBounds_17 : decode cX3_isInBounds 17 = .ok (.aload_n 0, 1) := by decide +kernel
theorem dX3_isInBounds_18 : decode cX3_isInBounds 18 = .ok (.getfield 15, 3) := by decide +kernel
theorem dX3_isInBounds_21 : decode cX3_isInBounds 21 = .ok (.iconst 2, 1) := by decide +kernel
theorem dX3_isInBounds_22 : decode cX3_isInBounds 22 = .ok (.if_icmp .lt 15, 3) := by decide +kernel
theorem dX3_isInBounds_25 : decode cX3_isInBounds 25 = .ok (.aload_n 0, 1) := by decide +kernel
theorem dX3_isInBounds_26 : decode cX3_isInBounds 26 = .ok (.getfield 15, 3) := by decide +kernel
theorem dX3_isInBounds_29 : decode cX3_isInBounds 29 = .ok (.iconst 3, 1) := by decide +kernel
theorem dX3_isInBounds_30 : decode cX3_isInBounds 30 = .ok (.if_icmp .gt 7, 3) := by decide +kernel
theorem dX3_isInBounds_33 : decode cX3_isInBounds 33 = .ok (.iconst 1, 1) := by decide +kernel
theorem dX3_isInBounds_34 : decode cX3_isInBounds 34 = .ok (.goto 4, 3) := by decide +kernel
theorem dX3_isInBounds_37 : decode cX3_isInBounds 37 = .ok (.iconst 0, 1) := by decide +kernel
theorem dX3_isInBounds_38 : decode cX3_isInBounds 38 = .ok (.ireturn, 1) := by decide +kernel
theorem dX3_leaving_0 : decode cX3_leaving 0 = .ok (.iconst 0, 1) := by decide +kernel
theorem dX3_leaving_1 : decode cX3_leaving 1 = .ok (.istore_n 2, 1) := by decide +kernel
theorem dX3_leaving_2 : decode cX3_leaving 2 = .ok (.iconst 0, 1) := by decide +kernel
theorem dX3_leaving_3 : decode cX3_leaving 3 = .ok (.istore_n 3, 1) := by decide +kernel
theorem dX3_leaving_4 : decode cX3_leaving 4 = .ok (.iload_n 3, 1) := by decide +kernel
theorem dX3_leaving_5 : decode cX3_leaving 5 = .ok (.aload_n 0, 1) := by decide +kernel
theorem dX3_leaving_6 : decode cX3_leaving 6 = .ok (.getfield 9, 3) := by decide +kernel
theorem dX3_leaving_9 : decode cX3_leaving 9 = .ok (.if_icmp .ge 25, 3) := by decide +kernel
theorem dX3_leaving_12 : decode cX3_leaving 12 = .ok (.aload_n 0, 1) := by decide +kernel
theorem dX3_leaving_13 : decode cX3_leaving 13 = .ok (.iload_n 3, 1) := by decide +kernel
theorem dX3_leaving_14 : decode cX3_leaving 14 = .ok (.invokevirtual 49, 3) := by decide +kernel
theorem dX3_leaving_17 : decode cX3_leaving 17 = .ok (.iload_n 1, 1) := by decide +kernel
theorem dX3_leaving_18 : decode cX3_leaving 18 = .ok (.iand, 1) := by decide +kernel
theorem dX3_leaving_19 : decode cX3_leaving 19 = .ok (.ifCond .eq 9, 3) := by decide +kernel
theorem dX3_leaving_22 : decode cX3_leaving 22 = .ok (.iload_n 2, 1) := by decide +kernel
theorem dX3_leaving_23 : decode cX3_leaving 23 = .ok (.iconst 1, 1) := by decide +kernel
theorem dX3_leaving_24 : decode cX3_leaving 24 = .ok (.iload_n 3, 1) := by decide +kernel
theorem dX3_leaving_25 : decode cX3_leaving 25 = .ok (.ishl, 1) := by decide +kernel
theorem dX3_leaving_26 : decode cX3_leaving 26 = .ok (.ior, 1) := by decide +kernel
theorem dX3_leaving_27 : decode cX3_leaving 27 = .ok (.istore_n 2, 1) := by decide +kernel
theorem dX3_leaving_28 : decode cX3_leaving 28 = .ok (.iinc 3 1, 3) := by decide +kernel
theorem dX3_leaving_31 : decode cX3_leaving 31 = .ok (.goto (-27), 3) := by decide +kernel
theorem dX3_leaving_34 : decode cX3_leaving 34 = .ok (.iload_n 2, 1) := by decide +kernel
theorem dX3_leaving_35 : decode cX3_leaving 35 = .ok (.ireturn, 1) := by decide +kernel
theorem dX3_liveSet_0 : decode cX3_liveSet 0 = .ok (.iconst 1, 1) := by decide +kernel
theorem dX3_liveSet_1 : decode cX3_liveSet 1 = .ok (.aload_n 0, 1) := by decide +kernel
theorem dX3_liveSet_2 : decode cX3_liveSet 2 = .ok (.getfield 9, 3) := by decide +kernel
theorem dX3_liveSet_5 : decode cX3_liveSet 5 = .ok (.ishl, 1) := by decide +kernel
theorem dX3_liveSet_6 : decode cX3_liveSet 6 = .ok (.iconst 1, 1) := by decide +kernel
theorem dX3_liveSet_7 : decode cX3_liveSet 7 = .ok (.isub, 1) := by decide +kernel
theorem dX3_liveSet_8 : decode cX3_liveSet 8 = .ok (.istore_n 1, 1) := by decide +kernel
theorem dX3_liveSet_9 : decode cX3_liveSet 9 = .ok (.iconst 0, 1) := by decide +kernel
theorem dX3_liveSet_10 : decode cX3_liveSet 10 = .ok (.istore_n 2, 1) := by decide +kernel
theorem dX3_liveSet_11 : decode cX3_liveSet 11 = .ok (.iload_n 2, 1) := by decide +kernel
theorem dX3_liveSet_12 : decode cX3_liveSet 12 = .ok (.bipush 24, 2) := by decide +kernel
theorem dX3_liveSet_14 : decode cX3_liveSet 14 = .ok (.if_icmp .ge 33, 3) := by decide +kernel
theorem dX3_liveSet_17 : decode cX3_liveSet 17 = .ok (.iload_n 1, 1) := by decide +kernel
theorem dX3_liveSet_18 : decode cX3_liveSet 18 = .ok (.aload_n 0, 1) := by decide +kernel
theorem dX3_liveSet_19 : decode cX3_liveSet 19 = .ok (.iload_n 1, 1) := by decide +kernel
theorem dX3_liveSet_20 : decode cX3_liveSet 20 = .ok (.invokevirtual 43, 3) := by decide +kernel
theorem dX3_liveSet_23 : decode cX3_liveSet 23 = .ok (.iand, 1) := by decide +kernel
theorem dX3_liveSet_24 : decode cX3_liveSet 24 = .ok (.aload_n 0, 1) := by decide +kernel
theorem dX3_liveSet_25 : decode cX3_liveSet 25 = .ok (.iload_n 1, 1) := by decide +kernel
theorem dX3_liveSet_26 : decode cX3_liveSet 26 = .ok (.invokevirtual 46, 3) := by decide +kernel
theorem dX3_liveSet_29 : decode cX3_liveSet 29 = .ok (.iand, 1) := by decide +kernel
theorem dX3_liveSet_30 : decode cX3_liveSet 30 = .ok (.istore_n 3, 1) := by decide +kernel
theorem dX3_liveSet_31 : decode cX3_liveSet 31 = .ok (.iload_n 3, 1) := by decide +kernel
theorem dX3_liveSet_32 : decode cX3_liveSet 32 = .ok (.iload_n 1, 1) := by decide +kernel
theorem dX3_liveSet_33 : decode cX3_liveSet 33 = .ok (.if_icmp .ne 6, 3) := by decide +kernel
theorem dX3_liveSet_36 : decode cX3_liveSet 36 = .ok (.goto 11, 3) := by decide +kernel
theorem dX3_liveSet_39 : decode cX3_liveSet 39 = .ok (.iload_n 3, 1) := by decide +kernel
theorem dX3_liveSet_40 : decode cX3_liveSet 40 = .ok (.istore_n 1, 1) := by decide +kernel
theorem dX3_liveSet_41 : decode cX3_liveSet 41 = .ok (.iinc 2 1, 3) := by decide +kernel
theorem dX3_liveSet_44 : decode cX3_liveSet 44 = .ok (.goto (-33), 3) := by decide +kernel
theorem dX3_liveSet_47 : decode cX3_liveSet 47 = .ok (.iload_n 1, 1) := by decide +kernel
theorem dX3_liveSet_48 : decode cX3_liveSet 48 = .ok (.ireturn, 1) := by decide +kernel
theorem dX3_read_0 : decode cX3_read 0 = .ok (.iconst 0, 1) := by decide +kernel
theorem dX3_read_1 : decode cX3_read 1 = .ok (.istore_n 3, 1) := by decide +kernel
theorem dX3_read_2 : decode cX3_read 2 = .ok (.iconst 0, 1) := by decide +kernel
theorem dX3_read_3 : decode cX3_read 3 = .ok (.istore 4, 2) := by decide +kernel
theorem dX3_read_5 : decode cX3_read 5 = .ok (.iload 4, 2) := by decide +kernel
theorem dX3_read_7 : decode cX3_read 7 = .ok (.aload_n 0, 1) := by decide +kernel
theorem dX3_read_8 : decode cX3_read 8 = .ok (.getfield 9, 3) := by decide +kernel
theorem dX3_read_11 : decode cX3_read 11 = .ok (.if_icmp .ge 35, 3) := by decide +kernel
theorem dX3_read_14 : decode cX3_read 14 = .ok (.iload_n 1, 1) := by decide +kernel
theorem dX3_read_15 : decode cX3_read 15 = .ok (.iload 4, 2) := by decide +kernel
theorem dX3_read_17 : decode cX3_read 17 = .ok (.ishr, 1) := by decide +kernel
theorem dX3_read_18 : decode cX3_read 18 = .ok (.ifCond .eq 28, 3) := by decide +kernel
theorem dX3_read_21 : decode cX3_read 21 = .ok (.iload_n 1, 1) := by decide +kernel
theorem dX3_read_22 : decode cX3_read 22 = .ok (.iload 4, 2) := by decide +kernel
theorem dX3_read_24 : decode cX3_read 24 = .ok (.invokestatic 39, 3) := by decide +kernel
theorem dX3_read_27 : decode cX3_read 27 = .ok (.ifCond .eq 13, 3) := by decide +kernel
theorem dX3_read_30 : decode cX3_read 30 = .ok (.iload_n 3, 1) := by decide +kernel
theorem dX3_read_31 : decode cX3_read 31 = .ok (.aload_n 0, 1) := by decide +kernel
theorem dX3_read_32 : decode cX3_read 32 = .ok (.iload 4, 2) := by decide +kernel
theorem dX3_read_34 : decode cX3_read 34 = .ok (.iload_n 2, 1) := by decide +kernel
theorem dX3_read_35 : decode cX3_read 35 = .ok (.invokevirtual 35, 3) := by decide +kernel
theorem dX3_read_38 : decode cX3_read 38 = .ok (.ior, 1) := by decide +kernel
theorem dX3_read_39 : decode cX3_read 39 = .ok (.istore_n 3, 1) := by decide +kernel
theorem dX3_read_40 : decode cX3_read 40 = .ok (.iinc 4 1, 3) := by decide +kernel
theorem dX3_read_43 : decode cX3_read 43 = .ok (.goto (-38), 3) := by decide +kernel
theorem dX3_read_46 : decode cX3_read 46 = .ok (.iload_n 3, 1) := by decide +kernel
theorem dX3_read_47 : decode cX3_read 47 = .ok (.ireturn, 1) := by decide +kernel
theorem dX3_targets_0 : decode cX3_targets 0 = .ok (.iload_n 2, 1) := by decide +kernel
theorem dX3_targets_1 : decode cX3_targets 1 = .ok (.bipush 24, 2) := by decide +kernel
theorem dX3_targets_3 : decode cX3_targets 3 = .ok (.imul, 1) := by decide +kernel
theorem dX3_targets_4 : decode cX3_targets 4 = .ok (.iload_n 1, 1) := by decide +kernel
theorem dX3_targets_5 : decode cX3_targets 5 = .ok (.iadd, 1) := by decide +kernel
theorem dX3_targets_6 : decode cX3_targets 6 = .ok (.istore_n 3, 1) := by decide +kernel
theorem dX3_targets_7 : decode cX3_targets 7 = .ok (.iload_n 1, 1) := by decide +kernel
theorem dX3_targets_8 : decode cX3_targets 8 = .ok (.ifCond .lt 27, 3) := by decide +kernel
theorem dX3_targets_11 : decode cX3_targets 11 = .ok (.iload_n 1, 1) := by decide +kernel
theorem dX3_targets_12 : decode cX3_targets 12 = .ok (.aload_n 0, 1) := by decide +kernel
theorem dX3_targets_13 : decode cX3_targets 13 = .ok (.getfield 9, 3) := by decide +kernel
theorem dX3_targets_16 : decode cX3_targets 16 = .ok (.if_icmp .ge 19, 3) := by decide +kernel
theorem dX3_targets_19 : decode cX3_targets 19 = .ok (.iload_n 2, 1) := by decide +kernel
theorem dX3_targets_20 : decode cX3_targets 20 = .ok (.ifCond .lt 15, 3) := by decide +kernel
theorem dX3_targets_23 : decode cX3_targets 23 = .ok (.iload_n 2, 1) := by decide +kernel
theorem dX3_targets_24 : decode cX3_targets 24 = .ok (.aload_n 0, 1) := by decide +kernel
theorem dX3_targets_25 : decode cX3_targets 25 = .ok (.getfield 15, 3) := by decide +kernel
theorem dX3_targets_28 : decode cX3_targets 28 = .ok (.if_icmp .ge 7, 3) := by decide +kernel
theorem dX3_targets_31 : decode cX3_targets 31 = .ok (.iconst 1, 1) := by decide +kernel
theorem dX3_targets_32 : decode cX3_targets 32 = .ok (.goto 4, 3) := by decide +kernel
theorem dX3_targets_35 : decode cX3_targets 35 = .ok (.iconst 0, 1) := by decide +kernel
theorem dX3_targets_36 : decode cX3_targets 36 = .ok (.istore 4, 2) := by decide +kernel
theorem dX3_targets_38 : decode cX3_targets 38 = .ok (.iload 4, 2) := by decide +kernel
theorem dX3_targets_40 : decode cX3_targets 40 = .ok (.ifCond .eq 25, 3) := by decide +kernel
theorem dX3_targets_43 : decode cX3_targets 43 = .ok (.iload_n 3, 1) := by decide +kernel
theorem dX3_targets_44 : decode cX3_targets 44 = .ok (.ifCond .lt 21, 3) := by decide +kernel
theorem dX3_targets_47 : decode cX3_targets 47 = .ok (.iload_n 3, 1) := by decide +kernel
theorem dX3_targets_48 : decode cX3_targets 48 = .ok (.aload_n 0, 1) := by decide +kernel
theorem dX3_targets_49 : decode cX3_targets 49 = .ok (.getfield 18, 3) := by decide +kernel
theorem dX3_targets_52 : decode cX3_targets 52 = .ok (.arraylength, 1) := by decide +kernel
theorem dX3_targets_53 : decode cX3_targets 53 = .ok (.if_icmp .ge 12, 3) := by decide +kernel
theorem dX3_targets_56 : decode cX3_targets 56 = .ok (.aload_n 0, 1) := by decide +kernel
theorem dX3_targets_57 : decode cX3_targets 57 = .ok (.getfield 18, 3) := by decide +kernel
theorem dX3_targets_60 : decode cX3_targets 60 = .ok (.iload_n 3, 1) := by decide +kernel
theorem dX3_targets_61 : decode cX3_targets 61 = .ok (.iaload, 1) := by decide +kernel
theorem dX3_targets_62 : decode cX3_targets 62 = .ok (.goto 4, 3) := by decide +kernel
theorem dX3_targets_65 : decode cX3_targets 65 = .ok (.iconst 0, 1) := by decide +kernel
theorem dX3_targets_66 : decode cX3_targets 66 = .ok (.ireturn, 1) := by decide +kernel
theorem dX3_tell_0 : decode cX3_tell 0 = .ok (.iload_n 2, 1) := by decide +kernel
theorem dX3_tell_1 : decode cX3_tell 1 = .ok (.bipush 24, 2) := by decide +kernel
theorem dX3_tell_3 : decode cX3_tell 3 = .ok (.imul, 1) := by decide +kernel
theorem dX3_tell_4 : decode cX3_tell 4 = .ok (.iload_n 1, 1) := by decide +kernel
theorem dX3_tell_5 : decode cX3_tell 5 = .ok (.iadd, 1) := by decide +kernel
theorem dX3_tell_6 : decode cX3_tell 6 = .ok (.istore 5, 2) := by decide +kernel
theorem dX3_tell_8 : decode cX3_tell 8 = .ok (.aload_n 0, 1) := by decide +kernel
theorem dX3_tell_9 : decode cX3_tell 9 = .ok (.iload_n 1, 1) := by decide +kernel
theorem dX3_tell_10 : decode cX3_tell 10 = .ok (.invokevirtual 22, 3) := by decide +kernel
theorem dX3_tell_13 : decode cX3_tell 13 = .ok (.ifCond .eq 23, 3) := by decide +kernel
theorem dX3_tell_16 : decode cX3_tell 16 = .ok (.aload_n 0, 1) := by decide +kernel
theorem dX3_tell_17 : decode cX3_tell 17 = .ok (.iload_n 2, 1) := by decide +kernel
theorem dX3_tell_18 : decode cX3_tell 18 = .ok (.invokevirtual 26, 3) := by decide +kernel
theorem dX3_tell_21 : decode cX3_tell 21 = .ok (.ifCond .eq 15, 3) := by decide +kernel
theorem dX3_tell_24 : decode cX3_tell 24 = .ok (.aload_n 0, 1) := by decide +kernel
theorem dX3_tell_25 : decode cX3_tell 25 = .ok (.iload_n 3, 1) := by decide +kernel
theorem dX3_tell_26 : decode cX3_tell 26 = .ok (.invokevirtual 22, 3) := by decide +kernel
theorem dX3_tell_29 : decode cX3_tell 29 = .ok (.ifCond .eq 7, 3) := by decide +kernel
theorem dX3_tell_32 : decode cX3_tell 32 = .ok (.iconst 1, 1) := by decide +kernel
theorem dX3_tell_33 : decode cX3_tell 33 = .ok (.goto 4, 3) := by decide +kernel
theorem dX3_tell_36 : decode cX3_tell 36 = .ok (.iconst 0, 1) := by decide +kernel
theorem dX3_tell_37 : decode cX3_tell 37 = .ok (.istore 6, 2) := by decide +kernel
theorem dX3_tell_39 : decode cX3_tell 39 = .ok (.iload 6, 2) := by decide +kernel
theorem dX3_tell_41 : decode cX3_tell 41 = .ok (.ifCond .eq 60, 3) := by decide +kernel
theorem dX3_tell_44 : decode cX3_tell 44 = .ok (.iload 5, 2) := by decide +kernel
theorem dX3_tell_46 : decode cX3_tell 46 = .ok (.ifCond .lt 55, 3) := by decide +kernel
theorem dX3_tell_49 : decode cX3_tell 49 = .ok (.iload 5, 2) := by decide +kernel
theorem dX3_tell_51 : decode cX3_tell 51 = .ok (.aload_n 0, 1) := by decide +kernel
theorem dX3_tell_52 : decode cX3_tell 52 = .ok (.getfield 18, 3) := by decide +kernel
theorem dX3_tell_55 : decode cX3_tell 55 = .ok (.arraylength, 1) := by decide +kernel
theorem dX3_tell_56 : decode cX3_tell 56 = .ok (.if_icmp .ge 45, 3) := by decide +kernel
theorem dX3_tell_59 : decode cX3_tell 59 = .ok (.iconst 1, 1) := by decide +kernel
theorem dX3_tell_60 : decode cX3_tell 60 = .ok (.iload_n 3, 1) := by decide +kernel
theorem dX3_tell_61 : decode cX3_tell 61 = .ok (.ishl, 1) := by decide +kernel
theorem dX3_tell_62 : decode cX3_tell 62 = .ok (.istore 7, 2) := by decide +kernel
theorem dX3_tell_64 : decode cX3_tell 64 = .ok (.aload_n 0, 1) := by decide +kernel
theorem dX3_tell_65 : decode cX3_tell 65 = .ok (.getfield 18, 3) := by decide +kernel
theorem dX3_tell_68 : decode cX3_tell 68 = .ok (.iload 5, 2) := by decide +kernel
theorem dX3_tell_70 : decode cX3_tell 70 = .ok (.iload 4, 2) := by decide +kernel
theorem dX3_tell_72 : decode cX3_tell 72 = .ok (.ifCond .eq 16, 3) := by decide +kernel
theorem dX3_tell_75 : decode cX3_tell 75 = .ok (.aload_n 0, 1) := by decide +kernel
theorem dX3_tell_76 : decode cX3_tell 76 = .ok (.getfield 18, 3) := by decide +kernel
theorem dX3_tell_79 : decode cX3_tell 79 = .ok (.iload 5, 2) := by decide +kernel
theorem dX3_tell_81 : decode cX3_tell 81 = .ok (.iaload, 1) := by decide +kernel
theorem dX3_tell_82 : decode cX3_tell 82 = .ok (.iload 7, 2) := by decide +kernel
theorem dX3_tell_84 : decode cX3_tell 84 = .ok (.ior, 1) := by decide +kernel
theorem dX3_tell_85 : decode cX3_tell 85 = .ok (.goto 15, 3) := by decide +kernel
theorem dX3_tell_88 : decode cX3_tell 88 = .ok (.aload_n 0, 1) := by decide +kernel
theorem dX3_tell_89 : decode cX3_tell 89 = .ok (.getfield 18, 3) := by decide +kernel
theorem dX3_tell_92 : decode cX3_tell 92 = .ok (.iload 5, 2) := by decide +kernel
theorem dX3_tell_94 : decode cX3_tell 94 = .ok (.iaload, 1) := by decide +kernel
theorem dX3_tell_95 : decode cX3_tell 95 = .ok (.iload 7, 2) := by decide +kernel
theorem dX3_tell_97 : decode cX3_tell 97 = .ok (.iconst (-1), 1) := by decide +kernel
theorem dX3_tell_98 : decode cX3_tell 98 = .ok (.ixor, 1) := by decide +kernel
theorem dX3_tell_99 : decode cX3_tell 99 = .ok (.iand, 1) := by decide +kernel
theorem dX3_tell_100 : decode cX3_tell 100 = .ok (.iastore, 1) := by decide +kernel
theorem dX3_tell_101 : decode cX3_tell 101 = .ok (.return_, 1) := by decide +kernel
theorem dX5_arrivals_0 : decode cX5_arrivals 0 = .ok (.aload_n 0, 1) := by decide +kernel
theorem dX5_arrivals_1 : decode cX5_arrivals 1 = .ok (.iload_n 1, 1) := by decide +kernel
theorem dX5_arrivals_2 : decode cX5_arrivals 2 = .ok (.iload_n 2, 1) := by decide +kernel
theorem dX5_arrivals_3 : decode cX5_arrivals 3 = .ok (.invokevirtual 30, 3) := by decide +kernel
theorem dX5_arrivals_6 : decode cX5_arrivals 6 = .ok (.iload_n 1, 1) := by decide +kernel
theorem dX5_arrivals_7 : decode cX5_arrivals 7 = .ok (.iand, 1) := by decide +kernel
theorem dX5_arrivals_8 : decode cX5_arrivals 8 = .ok (.ireturn, 1) := by decide +kernel
theorem dX5_byForbidden_0 : decode cX5_byForbidden 0 = .ok (.new 9, 3) := by decide +kernel
theorem dX5_byForbidden_3 : decode cX5_byForbidden 3 = .ok (.dup, 1) := by decide +kernel
theorem dX5_byForbidden_4 : decode cX5_byForbidden 4 = .ok (.iload_n 1, 1) := by decide +kernel
theorem dX5_byForbidden_5 : decode cX5_byForbidden 5 = .ok (.iload_n 1, 1) := by decide +kernel
theorem dX5_byForbidden_6 : decode cX5_byForbidden 6 = .ok (.imul, 1) := by decide +kernel
theorem dX5_byForbidden_7 : decode cX5_byForbidden 7 = .ok (.iload_n 1, 1) := by decide +kernel
theorem dX5_byForbidden_8 : decode cX5_byForbidden 8 = .ok (.invokespecial 11, 3) := by decide +kernel
theorem dX5_byForbidden_11 : decode cX5_byForbidden 11 = .ok (.astore_n 2, 1) := by decide +kernel
theorem dX5_byForbidden_12 : decode cX5_byForbidden 12 = .ok (.iconst 0, 1) := by decide +kernel
theorem dX5_byForbidden_13 : decode cX5_byForbidden 13 = .ok (.istore_n 3, 1) := by decide +kernel
theorem dX5_byForbidden_14 : decode cX5_byForbidden 14 = .ok (.iload_n 3, 1) := by decide +kernel
theorem dX5_byForbidden_15 : decode cX5_byForbidden 15 = .ok (.iload_n 1, 1) := by decide +kernel
theorem dX5_byForbidden_16 : decode cX5_byForbidden 16 = .ok (.if_icmp .ge 75, 3) := by decide +kernel
theorem dX5_byForbidden_19 : decode cX5_byForbidden 19 = .ok (.iconst 0, 1) := by decide +kernel
theorem dX5_byForbidden_20 : decode cX5_byForbidden 20 = .ok (.istore 4, 2) := by decide +kernel
theorem dX5_byForbidden_22 : decode cX5_byForbidden 22 = .ok (.iload 4, 2) := by decide +kernel
theorem dX5_byForbidden_24 : decode cX5_byForbidden 24 = .ok (.iload_n 1, 1) := by decide +kernel
theorem dX5_byForbidden_25 : decode cX5_byForbidden 25 = .ok (.if_icmp .ge 60, 3) := by decide +kernel
theorem dX5_byForbidden_28 : decode cX5_byForbidden 28 = .ok (.iconst 0, 1) := by decide +kernel
theorem dX5_byForbidden_29 : decode cX5_byForbidden 29 = .ok (.istore 5, 2) := by decide +kernel
theorem dX5_byForbidden_31 : decode cX5_byForbidden 31 = .ok (.iload 5, 2) := by decide +kernel
theorem dX5_byForbidden_33 : decode cX5_byForbidden 33 = .ok (.iload_n 1, 1) := by decide +kernel
theorem dX5_byForbidden_34 : decode cX5_byForbidden 34 = .ok (.if_icmp .ge 45, 3) := by decide +kernel
theorem dX5_byForbidden_37 : decode cX5_byForbidden 37 = .ok (.aload_n 2, 1) := by decide +kernel
theorem dX5_byForbidden_38 : decode cX5_byForbidden 38 = .ok (.iload_n 1, 1) := by decide +kernel
theorem dX5_byForbidden_39 : decode cX5_byForbidden 39 = .ok (.iload_n 3, 1) := by decide +kernel
theorem dX5_byForbidden_40 : decode cX5_byForbidden 40 = .ok (.imul, 1) := by decide +kernel
theorem dX5_byForbidden_41 : decode cX5_byForbidden 41 = .ok (.iload 4, 2) := by decide +kernel
theorem dX5_byForbidden_43 : decode cX5_byForbidden 43 = .ok (.iadd, 1) := by decide +kernel
theorem dX5_byForbidden_44 : decode cX5_byForbidden 44 = .ok (.iload 5, 2) := by decide +kernel
theorem dX5_byForbidden_46 : decode cX5_byForbidden 46 = .ok (.iload_n 1, 1) := by decide +kernel
theorem dX5_byForbidden_47 : decode cX5_byForbidden 47 = .ok (.iload 4, 2) := by decide +kernel
theorem dX5_byForbidden_49 : decode cX5_byForbidden 49 = .ok (.imul, 1) := by decide +kernel
theorem dX5_byForbidden_50 : decode cX5_byForbidden 50 = .ok (.iload 5, 2) := by decide +kernel
theorem dX5_byForbidden_52 : decode cX5_byForbidden 52 = .ok (.iadd, 1) := by decide +kernel
theorem dX5_byForbidden_53 : decode cX5_byForbidden 53 = .ok (.aload_n 0, 1) := by decide +kernel
theorem dX5_byForbidden_54 : decode cX5_byForbidden 54 = .ok (.iload_n 3, 1) := by decide +kernel
theorem dX5_byForbidden_55 : decode cX5_byForbidden 55 = .ok (.iload 4, 2) := by decide +kernel
theorem dX5_byForbidden_57 : decode cX5_byForbidden 57 = .ok (.iload 5, 2) := by decide +kernel
theorem dX5_byForbidden_59 : decode cX5_byForbidden 59 = .ok (.invokevirtual 14, 3) := by decide +kernel
theorem dX5_byForbidden_62 : decode cX5_byForbidden 62 = .ok (.ifCond .ne 7, 3) := by decide +kernel
theorem dX5_byForbidden_65 : decode cX5_byForbidden 65 = .ok (.iconst 1, 1) := by decide +kernel
theorem dX5_byForbidden_66 : decode cX5_byForbidden 66 = .ok (.goto 4, 3) := by decide +kernel
theorem dX5_byForbidden_69 : decode cX5_byForbidden 69 = .ok (.iconst 0, 1) := by decide +kernel
theorem dX5_byForbidden_70 : decode cX5_byForbidden 70 = .ok (.invokevirtual 20, 3) := by decide +kernel
theorem dX5_byForbidden_73 : decode cX5_byForbidden 73 = .ok (.iinc 5 1, 3) := by decide +kernel
theorem dX5_byForbidden_76 : decode cX5_byForbidden 76 = .ok (.goto (-45), 3) := by decide +kernel
theorem dX5_byForbidden_79 : decode cX5_byForbidden 79 = .ok (.iinc 4 1, 3) := by decide +kernel
theorem dX5_byForbidden_82 : decode cX5_byForbidden 82 = .ok (.goto (-60), 3) := by decide +kernel
theorem dX5_byForbidden_85 : decode cX5_byForbidden 85 = .ok (.iinc 3 1, 3) := by decide +kernel
theorem dX5_byForbidden_88 : decode cX5_byForbidden 88 = .ok (.goto (-74), 3) := by decide +kernel
theorem dX5_byForbidden_91 : decode cX5_byForbidden 91 = .ok (.aload_n 2, 1) := by decide +kernel
theorem dX5_byForbidden_92 : decode cX5_byForbidden 92 = .ok (.areturn, 1) := by decide +kernel
theorem dX5_byGaps_0 : decode cX5_byGaps 0 = .ok (.iconst 0, 1) := by decide +kernel
theorem dX5_byGaps_1 : decode cX5_byGaps 1 = .ok (.istore_n 1, 1) := by decide +kernel
theorem dX5_byGaps_2 : decode cX5_byGaps 2 = .ok (.iconst 0, 1) := by decide +kernel
theorem dX5_byGaps_3 : decode cX5_byGaps 3 = .ok (.istore_n 2, 1) := by decide +kernel
theorem dX5_byGaps_4 : decode cX5_byGaps 4 = .ok (.iload_n 2, 1) := by decide +kernel
theorem dX5_byGaps_5 : decode cX5_byGaps 5 = .ok (.bipush 8, 2) := by decide +kernel
theorem dX5_byGaps_7 : decode cX5_byGaps 7 = .ok (.if_icmp .ge 21, 3) := by decide +kernel
theorem dX5_byGaps_10 : decode cX5_byGaps 10 = .ok (.iload_n 0, 1) := by decide +kernel
theorem dX5_byGaps_11 : decode cX5_byGaps 11 = .ok (.iload_n 2, 1) := by decide +kernel
theorem dX5_byGaps_12 : decode cX5_byGaps 12 = .ok (.invokestatic 26, 3) := by decide +kernel
theorem dX5_byGaps_15 : decode cX5_byGaps 15 = .ok (.ifCond .eq 7, 3) := by decide +kernel
theorem dX5_byGaps_18 : decode cX5_byGaps 18 = .ok (.iload_n 2, 1) := by decide +kernel
theorem dX5_byGaps_19 : decode cX5_byGaps 19 = .ok (.iconst 1, 1) := by decide +kernel
theorem dX5_byGaps_20 : decode cX5_byGaps 20 = .ok (.iadd, 1) := by decide +kernel
theorem dX5_byGaps_21 : decode cX5_byGaps 21 = .ok (.istore_n 1, 1) := by decide +kernel
theorem dX5_byGaps_22 : decode cX5_byGaps 22 = .ok (.iinc 2 1, 3) := by decide +kernel
theorem dX5_byGaps_25 : decode cX5_byGaps 25 = .ok (.goto (-21), 3) := by decide +kernel
theorem dX5_byGaps_28 : decode cX5_byGaps 28 = .ok (.new 9, 3) := by decide +kernel
theorem dX5_byGaps_31 : decode cX5_byGaps 31 = .ok (.dup, 1) := by decide +kernel
theorem dX5_byGaps_32 : decode cX5_byGaps 32 = .ok (.iload_n 1, 1) := by decide +kernel
theorem dX5_byGaps_33 : decode cX5_byGaps 33 = .ok (.iconst 2, 1) := by decide +kernel
theorem dX5_byGaps_34 : decode cX5_byGaps 34 = .ok (.invokespecial 11, 3) := by decide +kernel
theorem dX5_byGaps_37 : decode cX5_byGaps 37 = .ok (.astore_n 2, 1) := by decide +kernel
theorem dX5_byGaps_38 : decode cX5_byGaps 38 = .ok (.iconst 0, 1) := by decide +kernel
theorem dX5_byGaps_39 : decode cX5_byGaps 39 = .ok (.istore_n 3, 1) := by decide +kernel
theorem dX5_byGaps_40 : decode cX5_byGaps 40 = .ok (.iload_n 3, 1) := by decide +kernel
theorem dX5_byGaps_41 : decode cX5_byGaps 41 = .ok (.iload_n 1, 1) := by decide +kernel
theorem dX5_byGaps_42 : decode cX5_byGaps 42 = .ok (.if_icmp .ge 42, 3) := by decide +kernel
theorem dX5_byGaps_45 : decode cX5_byGaps 45 = .ok (.aload_n 2, 1) := by decide +kernel
theorem dX5_byGaps_46 : decode cX5_byGaps 46 = .ok (.iload_n 3, 1) := by decide +kernel
theorem dX5_byGaps_47 : decode cX5_byGaps 47 = .ok (.iconst 0, 1) := by decide +kernel
theorem dX5_byGaps_48 : decode cX5_byGaps 48 = .ok (.iload_n 3, 1) := by decide +kernel
theorem dX5_byGaps_49 : decode cX5_byGaps 49 = .ok (.iconst 1, 1) := by decide +kernel
theorem dX5_byGaps_50 : decode cX5_byGaps 50 = .ok (.iadd, 1) := by decide +kernel
theorem dX5_byGaps_51 : decode cX5_byGaps 51 = .ok (.iload_n 3, 1) := by decide +kernel
theorem dX5_byGaps_52 : decode cX5_byGaps 52 = .ok (.iconst 1, 1) := by decide +kernel
theorem dX5_byGaps_53 : decode cX5_byGaps 53 = .ok (.iadd, 1) := by decide +kernel
theorem dX5_byGaps_54 : decode cX5_byGaps 54 = .ok (.iload_n 1, 1) := by decide +kernel
theorem dX5_byGaps_55 : decode cX5_byGaps 55 = .ok (.if_icmp .ge 7, 3) := by decide +kernel
theorem dX5_byGaps_58 : decode cX5_byGaps 58 = .ok (.iconst 1, 1) := by decide +kernel
theorem dX5_byGaps_59 : decode cX5_byGaps 59 = .ok (.goto 4, 3) := by decide +kernel
theorem dX5_byGaps_62 : decode cX5_byGaps 62 = .ok (.iconst 0, 1) := by decide +kernel
theorem dX5_byGaps_63 : decode cX5_byGaps 63 = .ok (.invokevirtual 20, 3) := by decide +kernel
theorem dX5_byGaps_66 : decode cX5_byGaps 66 = .ok (.aload_n 2, 1) := by decide +kernel
theorem dX5_byGaps_67 : decode cX5_byGaps 67 = .ok (.iload_n 3, 1) := by decide +kernel
theorem dX5_byGaps_68 : decode cX5_byGaps 68 = .ok (.iconst 1, 1) := by decide +kernel
theorem dX5_byGaps_69 : decode cX5_byGaps 69 = .ok (.iconst 0, 1) := by decide +kernel
theorem dX5_byGaps_70 : decode cX5_byGaps 70 = .ok (.iload_n 0, 1) := by decide +kernel
theorem dX5_byGaps_71 : decode cX5_byGaps 71 = .ok (.iload_n 3, 1) := by decide +kernel
theorem dX5_byGaps_72 : decode cX5_byGaps 72 = .ok (.invokestatic 26, 3) := by decide +kernel
theorem dX5_byGaps_75 : decode cX5_byGaps 75 = .ok (.invokevirtual 20, 3) := by decide +kernel
theorem dX5_byGaps_78 : decode cX5_byGaps 78 = .ok (.iinc 3 1, 3) := by decide +kernel
theorem dX5_byGaps_81 : decode cX5_byGaps 81 = .ok (.goto (-41), 3) := by decide +kernel
theorem dX5_byGaps_84 : decode cX5_byGaps 84 = .ok (.aload_n 2, 1) := by decide +kernel
theorem dX5_byGaps_85 : decode cX5_byGaps 85 = .ok (.areturn, 1) := by decide +kernel
theorem dX5_byImage_0 : decode cX5_byImage 0 = .ok (.aload_n 1, 1) := by decide +kernel
theorem dX5_byImage_1 : decode cX5_byImage 1 = .ok (.invokevirtual 57, 3) := by decide +kernel
theorem dX5_byImage_4 : decode cX5_byImage 4 = .ok (.istore_n 2, 1) := by decide +kernel
theorem dX5_byImage_5 : decode cX5_byImage 5 = .ok (.new 9, 3) := by decide +kernel
theorem dX5_byImage_8 : decode cX5_byImage 8 = .ok (.dup, 1) := by decide +kernel
theorem dX5_byImage_9 : decode cX5_byImage 9 = .ok (.aload_n 1, 1) := by decide +kernel
theorem dX5_byImage_10 : decode cX5_byImage 10 = .ok (.iload_n 2, 1) := by decide +kernel
theorem dX5_byImage_11 : decode cX5_byImage 11 = .ok (.invokestatic 61, 3) := by decide +kernel
theorem dX5_byImage_14 : decode cX5_byImage 14 = .ok (.aload_n 1, 1) := by decide +kernel
theorem dX5_byImage_15 : decode cX5_byImage 15 = .ok (.getfield 34, 3) := by decide +kernel
theorem dX5_byImage_18 : decode cX5_byImage 18 = .ok (.invokespecial 11, 3) := by decide +kernel
theorem dX5_byImage_21 : decode cX5_byImage 21 = .ok (.astore_n 3, 1) := by decide +kernel
theorem dX5_byImage_22 : decode cX5_byImage 22 = .ok (.aload_n 1, 1) := by decide +kernel
theorem dX5_byImage_23 : decode cX5_byImage 23 = .ok (.iload_n 2, 1) := by decide +kernel
theorem dX5_byImage_24 : decode cX5_byImage 24 = .ok (.invokestatic 65, 3) := by decide +kernel
theorem dX5_byImage_27 : decode cX5_byImage 27 = .ok (.astore 4, 2) := by decide +kernel
theorem dX5_byImage_29 : decode cX5_byImage 29 = .ok (.iconst 0, 1) := by decide +kernel
theorem dX5_byImage_30 : decode cX5_byImage 30 = .ok (.istore 5, 2) := by decide +kernel
theorem dX5_byImage_32 : decode cX5_byImage 32 = .ok (.iload 5, 2) := by decide +kernel
theorem dX5_byImage_34 : decode cX5_byImage 34 = .ok (.aload_n 1, 1) := by decide +kernel
theorem dX5_byImage_35 : decode cX5_byImage 35 = .ok (.getfield 54, 3) := by decide +kernel
theorem dX5_byImage_38 : decode cX5_byImage 38 = .ok (.if_icmp .ge 91, 3) := by decide +kernel
theorem dX5_byImage_41 : decode cX5_byImage 41 = .ok (.iconst 0, 1) := by decide +kernel
theorem dX5_byImage_42 : decode cX5_byImage 42 = .ok (.istore 6, 2) := by decide +kernel
theorem dX5_byImage_44 : decode cX5_byImage 44 = .ok (.iload 6, 2) := by decide +kernel
theorem dX5_byImage_46 : decode cX5_byImage 46 = .ok (.aload_n 1, 1) := by decide +kernel
theorem dX5_byImage_47 : decode cX5_byImage 47 = .ok (.getfield 34, 3) := by decide +kernel
theorem dX5_byImage_50 : decode cX5_byImage 50 = .ok (.if_icmp .ge 73, 3) := by decide +kernel
theorem dX5_byImage_53 : decode cX5_byImage 53 = .ok (.aload 4, 2) := by decide +kernel
theorem dX5_byImage_55 : decode cX5_byImage 55 = .ok (.iload 5, 2) := by decide +kernel
theorem dX5_byImage_57 : decode cX5_byImage 57 = .ok (.iload 6, 2) := by decide +kernel
theorem dX5_byImage_59 : decode cX5_byImage 59 = .ok (.invokestatic 69, 3) := by decide +kernel
theorem dX5_byImage_62 : decode cX5_byImage 62 = .ok (.istore 7, 2) := by decide +kernel
theorem dX5_byImage_64 : decode cX5_byImage 64 = .ok (.iconst 0, 1) := by decide +kernel
theorem dX5_byImage_65 : decode cX5_byImage 65 = .ok (.istore 8, 2) := by decide +kernel
theorem dX5_byImage_67 : decode cX5_byImage 67 = .ok (.iload 7, 2) := by decide +kernel
theorem dX5_byImage_69 : decode cX5_byImage 69 = .ok (.ifCond .lt 48, 3) := by decide +kernel
theorem dX5_byImage_72 : decode cX5_byImage 72 = .ok (.iload 8, 2) := by decide +kernel
theorem dX5_byImage_74 : decode cX5_byImage 74 = .ok (.aload_n 1, 1) := by decide +kernel
theorem dX5_byImage_75 : decode cX5_byImage 75 = .ok (.getfield 34, 3) := by decide +kernel
theorem dX5_byImage_78 : decode cX5_byImage 78 = .ok (.if_icmp .ge 39, 3) := by decide +kernel
theorem dX5_byImage_81 : decode cX5_byImage 81 = .ok (.aload_n 0, 1) := by decide +kernel
theorem dX5_byImage_82 : decode cX5_byImage 82 = .ok (.iload 6, 2) := by decide +kernel
theorem dX5_byImage_84 : decode cX5_byImage 84 = .ok (.iload 8, 2) := by decide +kernel
theorem dX5_byImage_86 : decode cX5_byImage 86 = .ok (.invokevirtual 73, 3) := by decide +kernel
theorem dX5_byImage_89 : decode cX5_byImage 89 = .ok (.istore 9, 2) := by decide +kernel
theorem dX5_byImage_91 : decode cX5_byImage 91 = .ok (.aload_n 3, 1) := by decide +kernel
theorem dX5_byImage_92 : decode cX5_byImage 92 = .ok (.aload 4, 2) := by decide +kernel
theorem dX5_byImage_94 : decode cX5_byImage 94 = .ok (.iload 7, 2) := by decide +kernel
theorem dX5_byImage_96 : decode cX5_byImage 96 = .ok (.iload 9, 2) := by decide +kernel
theorem dX5_byImage_98 : decode cX5_byImage 98 = .ok (.iload 8, 2) := by decide +kernel
theorem dX5_byImage_100 : decode cX5_byImage 100 = .ok (.aload_n 1, 1) := by decide +kernel
theorem dX5_byImage_101 : decode cX5_byImage 101 = .ok (.iload 5, 2) := by decide +kernel
theorem dX5_byImage_103 : decode cX5_byImage 103 = .ok (.iload 8, 2) := by decide +kernel
theorem dX5_byImage_105 : decode cX5_byImage 105 = .ok (.invokevirtual 78, 3) := by decide +kernel
theorem dX5_byImage_108 : decode cX5_byImage 108 = .ok (.invokestatic 81, 3) := by decide +kernel
theorem dX5_byImage_111 : decode cX5_byImage 111 = .ok (.iinc 8 1, 3) := by decide +kernel
theorem dX5_byImage_114 : decode cX5_byImage 114 = .ok (.goto (-47), 3) := by decide +kernel
theorem dX5_byImage_117 : decode cX5_byImage 117 = .ok (.iinc 6 1, 3) := by decide +kernel
theorem dX5_byImage_120 : decode cX5_byImage 120 = .ok (.goto (-76), 3) := by decide +kernel
theorem dX5_byImage_123 : decode cX5_byImage 123 = .ok (.iinc 5 1, 3) := by decide +kernel
theorem dX5_byImage_126 : decode cX5_byImage 126 = .ok (.goto (-94), 3) := by decide +kernel
theorem dX5_byImage_129 : decode cX5_byImage 129 = .ok (.aload_n 3, 1) := by decide +kernel
theorem dX5_byImage_130 : decode cX5_byImage 130 = .ok (.areturn, 1) := by decide +kernel
theorem dX5_countPairs_0 : decode cX5_countPairs 0 = .ok (.iconst 0, 1) := by decide +kernel
theorem dX5_countPairs_1 : decode cX5_countPairs 1 = .ok (.istore_n 2, 1) := by decide +kernel
theorem dX5_countPairs_2 : decode cX5_countPairs 2 = .ok (.iconst 0, 1) := by decide +kernel
theorem dX5_countPairs_3 : decode cX5_countPairs 3 = .ok (.istore_n 3, 1) := by decide +kernel
theorem dX5_countPairs_4 : decode cX5_countPairs 4 = .ok (.iload_n 3, 1) := by decide +kernel
theorem dX5_countPairs_5 : decode cX5_countPairs 5 = .ok (.aload_n 0, 1) := by decide +kernel
theorem dX5_countPairs_6 : decode cX5_countPairs 6 = .ok (.getfield 34, 3) := by decide +kernel
theorem dX5_countPairs_9 : decode cX5_countPairs 9 = .ok (.if_icmp .ge 21, 3) := by decide +kernel
theorem dX5_countPairs_12 : decode cX5_countPairs 12 = .ok (.iload_n 2, 1) := by decide +kernel
theorem dX5_countPairs_13 : decode cX5_countPairs 13 = .ok (.aload_n 0, 1) := by decide +kernel
theorem dX5_countPairs_14 : decode cX5_countPairs 14 = .ok (.iload_n 1, 1) := by decide +kernel
theorem dX5_countPairs_15 : decode cX5_countPairs 15 = .ok (.iload_n 3, 1) := by decide +kernel
theorem dX5_countPairs_16 : decode cX5_countPairs 16 = .ok (.invokestatic 38, 3) := by decide +kernel
theorem dX5_countPairs_19 : decode cX5_countPairs 19 = .ok (.invokestatic 42, 3) := by decide +kernel
theorem dX5_countPairs_22 : decode cX5_countPairs 22 = .ok (.iadd, 1) := by decide +kernel
theorem dX5_countPairs_23 : decode cX5_countPairs 23 = .ok (.istore_n 2, 1) := by decide +kernel
theorem dX5_countPairs_24 : decode cX5_countPairs 24 = .ok (.iinc 3 1, 3) := by decide +kernel
theorem dX5_countPairs_27 : decode cX5_countPairs 27 = .ok (.goto (-23), 3) := by decide +kernel
theorem dX5_countPairs_30 : decode cX5_countPairs 30 = .ok (.iload_n 2, 1) := by decide +kernel
theorem dX5_countPairs_31 : decode cX5_countPairs 31 = .ok (.ireturn, 1) := by decide +kernel
theorem dX5_drawTo_0 : decode cX5_drawTo 0 = .ok (.iconst 0, 1) := by decide +kernel
theorem dX5_drawTo_1 : decode cX5_drawTo 1 = .ok (.istore 6, 2) := by decide +kernel
theorem dX5_drawTo_3 : decode cX5_drawTo 3 = .ok (.iload 6, 2) := by decide +kernel
theorem dX5_drawTo_5 : decode cX5_drawTo 5 = .ok (.bipush 24, 2) := by decide +kernel
theorem dX5_drawTo_7 : decode cX5_drawTo 7 = .ok (.if_icmp .ge 43, 3) := by decide +kernel
theorem dX5_drawTo_10 : decode cX5_drawTo 10 = .ok (.aload_n 1, 1) := by decide +kernel
theorem dX5_drawTo_11 : decode cX5_drawTo 11 = .ok (.iload 6, 2) := by decide +kernel
theorem dX5_drawTo_13 : decode cX5_drawTo 13 = .ok (.iload 4, 2) := by decide +kernel
theorem dX5_drawTo_15 : decode cX5_drawTo 15 = .ok (.invokestatic 69, 3) := by decide +kernel
theorem dX5_drawTo_18 : decode cX5_drawTo 18 = .ok (.istore 7, 2) := by decide +kernel
theorem dX5_drawTo_20 : decode cX5_drawTo 20 = .ok (.iload 5, 2) := by decide +kernel
theorem dX5_drawTo_22 : decode cX5_drawTo 22 = .ok (.iload 6, 2) := by decide +kernel
theorem dX5_drawTo_24 : decode cX5_drawTo 24 = .ok (.invokestatic 26, 3) := by decide +kernel
theorem dX5_drawTo_27 : decode cX5_drawTo 27 = .ok (.ifCond .eq 17, 3) := by decide +kernel
theorem dX5_drawTo_30 : decode cX5_drawTo 30 = .ok (.iload 7, 2) := by decide +kernel
theorem dX5_drawTo_32 : decode cX5_drawTo 32 = .ok (.ifCond .lt 12, 3) := by decide +kernel
theorem dX5_drawTo_35 : decode cX5_drawTo 35 = .ok (.aload_n 0, 1) := by decide +kernel
theorem dX5_drawTo_36 : decode cX5_drawTo 36 = .ok (.iload_n 2, 1) := by decide +kernel
theorem dX5_drawTo_37 : decode cX5_drawTo 37 = .ok (.iload_n 3, 1) := by decide +kernel
theorem dX5_drawTo_38 : decode cX5_drawTo 38 = .ok (.iload 7, 2) := by decide +kernel
theorem dX5_drawTo_40 : decode cX5_drawTo 40 = .ok (.iconst 1, 1) := by decide +kernel
theorem dX5_drawTo_41 : decode cX5_drawTo 41 = .ok (.invokevirtual 20, 3) := by decide +kernel
theorem dX5_drawTo_44 : decode cX5_drawTo 44 = .ok (.iinc 6 1, 3) := by decide +kernel
theorem dX5_drawTo_47 : decode cX5_drawTo 47 = .ok (.goto (-44), 3) := by decide +kernel
theorem dX5_drawTo_50 : decode cX5_drawTo 50 = .ok (.return_, 1) := by decide +kernel
theorem dX5_numberOf_0 : decode cX5_numberOf 0 = .ok (.iconst 3, 1) := by decide +kernel
theorem dX5_numberOf_1 : decode cX5_numberOf 1 = .ok (.iload_n 1, 1) := by decide +kernel
theorem dX5_numberOf_2 : decode cX5_numberOf 2 = .ok (.imul, 1) := by decide +kernel
theorem dX5_numberOf_3 : decode cX5_numberOf 3 = .ok (.iload_n 2, 1) := by decide +kernel
theorem dX5_numberOf_4 : decode cX5_numberOf 4 = .ok (.iadd, 1) := by decide +kernel
theorem dX5_numberOf_5 : decode cX5_numberOf 5 = .ok (.istore_n 3, 1) := by decide +kernel
theorem dX5_numberOf_6 : decode cX5_numberOf 6 = .ok (.iload_n 3, 1) := by decide +kernel
theorem dX5_numberOf_7 : decode cX5_numberOf 7 = .ok (.ifCond .lt 15, 3) := by decide +kernel
theorem dX5_numberOf_10 : decode cX5_numberOf 10 = .ok (.iload_n 3, 1) := by decide +kernel
theorem dX5_numberOf_11 : decode cX5_numberOf 11 = .ok (.aload_n 0, 1) := by decide +kernel
theorem dX5_numberOf_12 : decode cX5_numberOf 12 = .ok (.arraylength, 1) := by decide +kernel
theorem dX5_numberOf_13 : decode cX5_numberOf 13 = .ok (.if_icmp .ge 9, 3) := by decide +kernel
theorem dX5_numberOf_16 : decode cX5_numberOf 16 = .ok (.aload_n 0, 1) := by decide +kernel
theorem dX5_numberOf_17 : decode cX5_numberOf 17 = .ok (.iload_n 3, 1) := by decide +kernel
theorem dX5_numberOf_18 : decode cX5_numberOf 18 = .ok (.iaload, 1) := by decide +kernel
theorem dX5_numberOf_19 : decode cX5_numberOf 19 = .ok (.goto 4, 3) := by decide +kernel
theorem dX5_numberOf_22 : decode cX5_numberOf 22 = .ok (.iconst (-1), 1) := by decide +kernel
theorem dX5_numberOf_23 : decode cX5_numberOf 23 = .ok (.ireturn, 1) := by decide +kernel
theorem dX5_numberPairs_0 : decode cX5_numberPairs 0 = .ok (.bipush 72, 2) := by decide +kernel
theorem dX5_numberPairs_2 : decode cX5_numberPairs 2 = .ok (.newarray .int, 2) := by decide +kernel
theorem dX5_numberPairs_4 : decode cX5_numberPairs 4 = .ok (.astore_n 2, 1) := by decide +kernel
theorem dX5_numberPairs_5 : decode cX5_numberPairs 5 = .ok (.aload_n 2, 1) := by decide +kernel
theorem dX5_numberPairs_6 : decode cX5_numberPairs 6 = .ok (.iconst (-1), 1) := by decide +kernel
theorem dX5_numberPairs_7 : decode cX5_numberPairs 7 = .ok (.invokestatic 48, 3) := by decide +kernel
theorem dX5_numberPairs_10 : decode cX5_numberPairs 10 = .ok (.iconst 0, 1) := by decide +kernel
theorem dX5_numberPairs_11 : decode cX5_numberPairs 11 = .ok (.istore_n 3, 1) := by decide +kernel
theorem dX5_numberPairs_12 : decode cX5_numberPairs 12 = .ok (.iload_n 3, 1) := by decide +kernel
theorem dX5_numberPairs_13 : decode cX5_numberPairs 13 = .ok (.aload_n 0, 1) := by decide +kernel
theorem dX5_numberPairs_14 : decode cX5_numberPairs 14 = .ok (.getfield 34, 3) := by decide +kernel
theorem dX5_numberPairs_17 : decode cX5_numberPairs 17 = .ok (.if_icmp .ge 65, 3) := by decide +kernel
theorem dX5_numberPairs_20 : decode cX5_numberPairs 20 = .ok (.aload_n 0, 1) := by decide +kernel
theorem dX5_numberPairs_21 : decode cX5_numberPairs 21 = .ok (.iload_n 1, 1) := by decide +kernel
theorem dX5_numberPairs_22 : decode cX5_numberPairs 22 = .ok (.iload_n 3, 1) := by decide +kernel
theorem dX5_numberPairs_23 : decode cX5_numberPairs 23 = .ok (.invokestatic 38, 3) := by decide +kernel
theorem dX5_numberPairs_26 : decode cX5_numberPairs 26 = .ok (.istore 4, 2) := by decide +kernel
theorem dX5_numberPairs_28 : decode cX5_numberPairs 28 = .ok (.iconst 0, 1) := by decide +kernel
theorem dX5_numberPairs_29 : decode cX5_numberPairs 29 = .ok (.istore 5, 2) := by decide +kernel
theorem dX5_numberPairs_31 : decode cX5_numberPairs 31 = .ok (.iload 5, 2) := by decide +kernel
theorem dX5_numberPairs_33 : decode cX5_numberPairs 33 = .ok (.aload_n 0, 1) := by decide +kernel
theorem dX5_numberPairs_34 : decode cX5_numberPairs 34 = .ok (.getfield 54, 3) := by decide +kernel
theorem dX5_numberPairs_37 : decode cX5_numberPairs 37 = .ok (.if_icmp .ge 39, 3) := by decide +kernel
theorem dX5_numberPairs_40 : decode cX5_numberPairs 40 = .ok (.iconst 3, 1) := by decide +kernel
theorem dX5_numberPairs_41 : decode cX5_numberPairs 41 = .ok (.iload 5, 2) := by decide +kernel
theorem dX5_numberPairs_43 : decode cX5_numberPairs 43 = .ok (.imul, 1) := by decide +kernel
theorem dX5_numberPairs_44 : decode cX5_numberPairs 44 = .ok (.iload_n 3, 1) := by decide +kernel
theorem dX5_numberPairs_45 : decode cX5_numberPairs 45 = .ok (.iadd, 1) := by decide +kernel
theorem dX5_numberPairs_46 : decode cX5_numberPairs 46 = .ok (.istore 6, 2) := by decide +kernel
theorem dX5_numberPairs_48 : decode cX5_numberPairs 48 = .ok (.iload 4, 2) := by decide +kernel
theorem dX5_numberPairs_50 : decode cX5_numberPairs 50 = .ok (.iload 5, 2) := by decide +kernel
theorem dX5_numberPairs_52 : decode cX5_numberPairs 52 = .ok (.invokestatic 26, 3) := by decide +kernel
theorem dX5_numberPairs_55 : decode cX5_numberPairs 55 = .ok (.ifCond .eq 15, 3) := by decide +kernel
theorem dX5_numberPairs_58 : decode cX5_numberPairs 58 = .ok (.iload 6, 2) := by decide +kernel
theorem dX5_numberPairs_60 : decode cX5_numberPairs 60 = .ok (.aload_n 2, 1) := by decide +kernel
theorem dX5_numberPairs_61 : decode cX5_numberPairs 61 = .ok (.arraylength, 1) := by decide +kernel
theorem dX5_numberPairs_62 : decode cX5_numberPairs 62 = .ok (.if_icmp .ge 8, 3) := by decide +kernel
theorem dX5_numberPairs_65 : decode cX5_numberPairs 65 = .ok (.aload_n 2, 1) := by decide +kernel
theorem dX5_numberPairs_66 : decode cX5_numberPairs 66 = .ok (.iload 6, 2) := by decide +kernel
theorem dX5_numberPairs_68 : decode cX5_numberPairs 68 = .ok (.iconst 0, 1) := by decide +kernel
theorem dX5_numberPairs_69 : decode cX5_numberPairs 69 = .ok (.iastore, 1) := by decide +kernel
theorem dX5_numberPairs_70 : decode cX5_numberPairs 70 = .ok (.iinc 5 1, 3) := by decide +kernel
theorem dX5_numberPairs_73 : decode cX5_numberPairs 73 = .ok (.goto (-42), 3) := by decide +kernel
theorem dX5_numberPairs_76 : decode cX5_numberPairs 76 = .ok (.iinc 3 1, 3) := by decide +kernel
theorem dX5_numberPairs_79 : decode cX5_numberPairs 79 = .ok (.goto (-67), 3) := by decide +kernel
theorem dX5_numberPairs_82 : decode cX5_numberPairs 82 = .ok (.iconst 0, 1) := by decide +kernel
theorem dX5_numberPairs_83 : decode cX5_numberPairs 83 = .ok (.istore_n 3, 1) := by decide +kernel
theorem dX5_numberPairs_84 : decode cX5_numberPairs 84 = .ok (.iconst 0, 1) := by decide +kernel
theorem dX5_numberPairs_85 : decode cX5_numberPairs 85 = .ok (.istore 4, 2) := by decide +kernel
theorem dX5_numberPairs_87 : decode cX5_numberPairs 87 = .ok (.iload 4, 2) := by decide +kernel
theorem dX5_numberPairs_89 : decode cX5_numberPairs 89 = .ok (.aload_n 2, 1) := by decide +kernel
theorem dX5_numberPairs_90 : decode cX5_numberPairs 90 = .ok (.arraylength, 1) := by decide +kernel
theorem dX5_numberPairs_91 : decode cX5_numberPairs 91 = .ok (.if_icmp .ge 24, 3) := by decide +kernel
theorem dX5_numberPairs_94 : decode cX5_numberPairs 94 = .ok (.aload_n 2, 1) := by decide +kernel
theorem dX5_numberPairs_95 : decode cX5_numberPairs 95 = .ok (.iload 4, 2) := by decide +kernel
theorem dX5_numberPairs_97 : decode cX5_numberPairs 97 = .ok (.iaload, 1) := by decide +kernel
theorem dX5_numberPairs_98 : decode cX5_numberPairs 98 = .ok (.ifCond .lt 11, 3) := by decide +kernel
theorem dX5_numberPairs_101 : decode cX5_numberPairs 101 = .ok (.aload_n 2, 1) := by decide +kernel
theorem dX5_numberPairs_102 : decode cX5_numberPairs 102 = .ok (.iload 4, 2) := by decide +kernel
theorem dX5_numberPairs_104 : decode cX5_numberPairs 104 = .ok (.iload_n 3, 1) := by decide +kernel
theorem dX5_numberPairs_105 : decode cX5_numberPairs 105 = .ok (.iastore, 1) := by decide +kernel
theorem dX5_numberPairs_106 : decode cX5_numberPairs 106 = .ok (.iinc 3 1, 3) := by decide +kernel
theorem dX5_numberPairs_109 : decode cX5_numberPairs 109 = .ok (.iinc 4 1, 3) := by decide +kernel
theorem dX5_numberPairs_112 : decode cX5_numberPairs 112 = .ok (.goto (-25), 3) := by decide +kernel
theorem dX5_numberPairs_115 : decode cX5_numberPairs 115 = .ok (.aload_n 2, 1) := by decide +kernel
theorem dX5_numberPairs_116 : decode cX5_numberPairs 116 = .ok (.areturn, 1) := by decide +kernel
theorem dX6_collectSets_0 : decode cX6_collectSets 0 = .ok (.aload_n 1, 1) := by decide +kernel
theorem dX6_collectSets_1 : decode cX6_collectSets 1 = .ok (.invokevirtual 45, 3) := by decide +kernel
theorem dX6_collectSets_4 : decode cX6_collectSets 4 = .ok (.istore_n 2, 1) := by decide +kernel
theorem dX6_collectSets_5 : decode cX6_collectSets 5 = .ok (.iload_n 2, 1) := by decide +kernel
theorem dX6_collectSets_6 : decode cX6_collectSets 6 = .ok (.ifCond .ne 7, 3) := by decide +kernel
theorem dX6_collectSets_9 : decode cX6_collectSets 9 = .ok (.iconst 0, 1) := by decide +kernel
theorem dX6_collectSets_10 : decode cX6_collectSets 10 = .ok (.goto 4, 3) := by decide +kernel
theorem dX6_collectSets_13 : decode cX6_collectSets 13 = .ok (.iconst 1, 1) := by decide +kernel
theorem dX6_collectSets_14 : decode cX6_collectSets 14 = .ok (.istore_n 3, 1) := by decide +kernel
theorem dX6_collectSets_15 : decode cX6_collectSets 15 = .ok (.aload_n 0, 1) := by decide +kernel
theorem dX6_collectSets_16 : decode cX6_collectSets 16 = .ok (.iconst 0, 1) := by decide +kernel
theorem dX6_collectSets_17 : decode cX6_collectSets 17 = .ok (.iload_n 2, 1) := by decide +kernel
theorem dX6_collectSets_18 : decode cX6_collectSets 18 = .ok (.invokevirtual 120, 3) := by decide +kernel
theorem dX6_collectSets_21 : decode cX6_collectSets 21 = .ok (.iconst 0, 1) := by decide +kernel
theorem dX6_collectSets_22 : decode cX6_collectSets 22 = .ok (.istore 4, 2) := by decide +kernel
theorem dX6_collectSets_24 : decode cX6_collectSets 24 = .ok (.iload 4, 2) := by decide +kernel
theorem dX6_collectSets_26 : decode cX6_collectSets 26 = .ok (.iload_n 3, 1) := by decide +kernel
theorem dX6_collectSets_27 : decode cX6_collectSets 27 = .ok (.if_icmp .ge 106, 3) := by decide +kernel
theorem dX6_collectSets_30 : decode cX6_collectSets 30 = .ok (.iload 4, 2) := by decide +kernel
theorem dX6_collectSets_32 : decode cX6_collectSets 32 = .ok (.aload_n 0, 1) := by decide +kernel
theorem dX6_collectSets_33 : decode cX6_collectSets 33 = .ok (.getfield 24, 3) := by decide +kernel
theorem dX6_collectSets_36 : decode cX6_collectSets 36 = .ok (.arraylength, 1) := by decide +kernel
theorem dX6_collectSets_37 : decode cX6_collectSets 37 = .ok (.if_icmp .ge 96, 3) := by decide +kernel
theorem dX6_collectSets_40 : decode cX6_collectSets 40 = .ok (.iconst 0, 1) := by decide +kernel
theorem dX6_collectSets_41 : decode cX6_collectSets 41 = .ok (.istore 5, 2) := by decide +kernel
theorem dX6_collectSets_43 : decode cX6_collectSets 43 = .ok (.iload 5, 2) := by decide +kernel
theorem dX6_collectSets_45 : decode cX6_collectSets 45 = .ok (.aload_n 1, 1) := by decide +kernel
theorem dX6_collectSets_46 : decode cX6_collectSets 46 = .ok (.getfield 82, 3) := by decide +kernel
theorem dX6_collectSets_49 : decode cX6_collectSets 49 = .ok (.if_icmp .ge 78, 3) := by decide +kernel
theorem dX6_collectSets_52 : decode cX6_collectSets 52 = .ok (.aload_n 1, 1) := by decide +kernel
theorem dX6_collectSets_53 : decode cX6_collectSets 53 = .ok (.aload_n 0, 1) := by decide +kernel
theorem dX6_collectSets_54 : decode cX6_collectSets 54 = .ok (.getfield 24, 3) := by decide +kernel
theorem dX6_collectSets_57 : decode cX6_collectSets 57 = .ok (.iload 4, 2) := by decide +kernel
theorem dX6_collectSets_59 : decode cX6_collectSets 59 = .ok (.iaload, 1) := by decide +kernel
theorem dX6_collectSets_60 : decode cX6_collectSets 60 = .ok (.iload 5, 2) := by decide +kernel
theorem dX6_collectSets_62 : decode cX6_collectSets 62 = .ok (.invokevirtual 61, 3) := by decide +kernel
theorem dX6_collectSets_65 : decode cX6_collectSets 65 = .ok (.iload_n 2, 1) := by decide +kernel
theorem dX6_collectSets_66 : decode cX6_collectSets 66 = .ok (.iand, 1) := by decide +kernel
theorem dX6_collectSets_67 : decode cX6_collectSets 67 = .ok (.istore 6, 2) := by decide +kernel
theorem dX6_collectSets_69 : decode cX6_collectSets 69 = .ok (.iload 6, 2) := by decide +kernel
theorem dX6_collectSets_71 : decode cX6_collectSets 71 = .ok (.ifCond .ne 7, 3) := by decide +kernel
theorem dX6_collectSets_74 : decode cX6_collectSets 74 = .ok (.iconst (-1), 1) := by decide +kernel
theorem dX6_collectSets_75 : decode cX6_collectSets 75 = .ok (.goto 10, 3) := by decide +kernel
theorem dX6_collectSets_78 : decode cX6_collectSets 78 = .ok (.aload_n 0, 1) := by decide +kernel
theorem dX6_collectSets_79 : decode cX6_collectSets 79 = .ok (.iload 6, 2) := by decide +kernel
theorem dX6_collectSets_81 : decode cX6_collectSets 81 = .ok (.iload_n 3, 1) := by decide +kernel
theorem dX6_collectSets_82 : decode cX6_collectSets 82 = .ok (.invokevirtual 124, 3) := by decide +kernel
theorem dX6_collectSets_85 : decode cX6_collectSets 85 = .ok (.istore 7, 2) := by decide +kernel
theorem dX6_collectSets_87 : decode cX6_collectSets 87 = .ok (.iload 7, 2) := by decide +kernel
theorem dX6_collectSets_89 : decode cX6_collectSets 89 = .ok (.iload_n 3, 1) := by decide +kernel
theorem dX6_collectSets_90 : decode cX6_collectSets 90 = .ok (.if_icmp .ne 21, 3) := by decide +kernel
theorem dX6_collectSets_93 : decode cX6_collectSets 93 = .ok (.iload_n 3, 1) := by decide +kernel
theorem dX6_collectSets_94 : decode cX6_collectSets 94 = .ok (.bipush 60, 2) := by decide +kernel
theorem dX6_collectSets_96 : decode cX6_collectSets 96 = .ok (.if_icmp .lt 5, 3) := by decide +kernel
theorem dX6_collectSets_99 : decode cX6_collectSets 99 = .ok (.iconst (-1), 1) := by decide +kernel
theorem dX6_collectSets_100 : decode cX6_collectSets 100 = .ok (.ireturn, 1) := by decide +kernel
theorem dX6_collectSets_101 : decode cX6_collectSets 101 = .ok (.aload_n 0, 1) := by decide +kernel
theorem dX6_collectSets_102 : decode cX6_collectSets 102 = .ok (.iload_n 3, 1) := by decide +kernel
theorem dX6_collectSets_103 : decode cX6_collectSets 103 = .ok (.iload 6, 2) := by decide +kernel
theorem dX6_collectSets_105 : decode cX6_collectSets 105 = .ok (.invokevirtual 120, 3) := by decide +kernel
theorem dX6_collectSets_108 : decode cX6_collectSets 108 = .ok (.iinc 3 1, 3) := by decide +kernel
theorem dX6_collectSets_111 : decode cX6_collectSets 111 = .ok (.aload_n 0, 1) := by decide +kernel
theorem dX6_collectSets_112 : decode cX6_collectSets 112 = .ok (.iload 4, 2) := by decide +kernel
theorem dX6_collectSets_114 : decode cX6_collectSets 114 = .ok (.iload 5, 2) := by decide +kernel
theorem dX6_collectSets_116 : decode cX6_collectSets 116 = .ok (.iload 7, 2) := by decide +kernel
theorem dX6_collectSets_118 : decode cX6_collectSets 118 = .ok (.invokevirtual 127, 3) := by decide +kernel
theorem dX6_collectSets_121 : decode cX6_collectSets 121 = .ok (.iinc 5 1, 3) := by decide +kernel
theorem dX6_collectSets_124 : decode cX6_collectSets 124 = .ok (.goto (-81), 3) := by decide +kernel
theorem dX6_collectSets_127 : decode cX6_collectSets 127 = .ok (.iinc 4 1, 3) := by decide +kernel
theorem dX6_collectSets_130 : decode cX6_collectSets 130 = .ok (.goto (-106), 3) := by decide +kernel
theorem dX6_collectSets_133 : decode cX6_collectSets 133 = .ok (.iload_n 3, 1) := by decide +kernel
theorem dX6_collectSets_134 : decode cX6_collectSets 134 = .ok (.ireturn, 1) := by decide +kernel
theorem dX6_countFutures_0 : decode cX6_countFutures 0 = .ok (.aload_n 0, 1) := by decide +kernel
theorem dX6_countFutures_1 : decode cX6_countFutures 1 = .ok (.aload_n 1, 1) := by decide +kernel
theorem dX6_countFutures_2 : decode cX6_countFutures 2 = .ok (.invokevirtual 113, 3) := by decide +kernel
theorem dX6_countFutures_5 : decode cX6_countFutures 5 = .ok (.istore_n 2, 1) := by decide +kernel
theorem dX6_countFutures_6 : decode cX6_countFutures 6 = .ok (.iload_n 2, 1) := by decide +kernel
theorem dX6_countFutures_7 : decode cX6_countFutures 7 = .ok (.ifCond .ge 5, 3) := by decide +kernel
theorem dX6_countFutures_10 : decode cX6_countFutures 10 = .ok (.iconst (-1), 1) := by decide +kernel
theorem dX6_countFutures_11 : decode cX6_countFutures 11 = .ok (.ireturn, 1) := by decide +kernel
theorem dX6_countFutures_12 : decode cX6_countFutures 12 = .ok (.iload_n 2, 1) := by decide +kernel
theorem dX6_countFutures_13 : decode cX6_countFutures 13 = .ok (.ifCond .le 7, 3) := by decide +kernel
theorem dX6_countFutures_16 : decode cX6_countFutures 16 = .ok (.iconst 1, 1) := by decide +kernel
theorem dX6_countFutures_17 : decode cX6_countFutures 17 = .ok (.goto 4, 3) := by decide +kernel
theorem dX6_countFutures_20 : decode cX6_countFutures 20 = .ok (.iconst 0, 1) := by decide +kernel
theorem dX6_countFutures_21 : decode cX6_countFutures 21 = .ok (.istore_n 3, 1) := by decide +kernel
theorem dX6_countFutures_22 : decode cX6_countFutures 22 = .ok (.aload_n 0, 1) := by decide +kernel
theorem dX6_countFutures_23 : decode cX6_countFutures 23 = .ok (.getfield 30, 3) := by decide +kernel
theorem dX6_countFutures_26 : decode cX6_countFutures 26 = .ok (.iconst 0, 1) := by decide +kernel
theorem dX6_countFutures_27 : decode cX6_countFutures 27 = .ok (.invokestatic 65, 3) := by decide +kernel
theorem dX6_countFutures_30 : decode cX6_countFutures 30 = .ok (.iconst 0, 1) := by decide +kernel
theorem dX6_countFutures_31 : decode cX6_countFutures 31 = .ok (.istore 4, 2) := by decide +kernel
theorem dX6_countFutures_33 : decode cX6_countFutures 33 = .ok (.iload 4, 2) := by decide +kernel
theorem dX6_countFutures_35 : decode cX6_countFutures 35 = .ok (.bipush 60, 2) := by decide +kernel
theorem dX6_countFutures_37 : decode cX6_countFutures 37 = .ok (.if_icmp .ge 32, 3) := by decide +kernel
theorem dX6_countFutures_40 : decode cX6_countFutures 40 = .ok (.aload_n 0, 1) := by decide +kernel
theorem dX6_countFutures_41 : decode cX6_countFutures 41 = .ok (.iload_n 2, 1) := by decide +kernel
theorem dX6_countFutures_42 : decode cX6_countFutures 42 = .ok (.aload_n 1, 1) := by decide +kernel
theorem dX6_countFutures_43 : decode cX6_countFutures 43 = .ok (.getfield 82, 3) := by decide +kernel
theorem dX6_countFutures_46 : decode cX6_countFutures 46 = .ok (.invokevirtual 117, 3) := by decide +kernel
theorem dX6_countFutures_49 : decode cX6_countFutures 49 = .ok (.istore 5, 2) := by decide +kernel
theorem dX6_countFutures_51 : decode cX6_countFutures 51 = .ok (.iload 5, 2) := by decide +kernel
theorem dX6_countFutures_53 : decode cX6_countFutures 53 = .ok (.iload_n 3, 1) := by decide +kernel
theorem dX6_countFutures_54 : decode cX6_countFutures 54 = .ok (.if_icmp .gt 6, 3) := by decide +kernel
theorem dX6_countFutures_57 : decode cX6_countFutures 57 = .ok (.goto 12, 3) := by decide +kernel
theorem dX6_countFutures_60 : decode cX6_countFutures 60 = .ok (.iload 5, 2) := by decide +kernel
theorem dX6_countFutures_62 : decode cX6_countFutures 62 = .ok (.istore_n 3, 1) := by decide +kernel
theorem dX6_countFutures_63 : decode cX6_countFutures 63 = .ok (.iinc 4 1, 3) := by decide +kernel
theorem dX6_countFutures_66 : decode cX6_countFutures 66 = .ok (.goto (-33), 3) := by decide +kernel
theorem dX6_countFutures_69 : decode cX6_countFutures 69 = .ok (.iload_n 3, 1) := by decide +kernel
theorem dX6_countFutures_70 : decode cX6_countFutures 70 = .ok (.ireturn, 1) := by decide +kernel
theorem dX6_countOn_0 : decode cX6_countOn 0 = .ok (.iload_n 3, 1) := by decide +kernel
theorem dX6_countOn_1 : decode cX6_countOn 1 = .ok (.ifCond .eq 10, 3) := by decide +kernel
theorem dX6_countOn_4 : decode cX6_countOn 4 = .ok (.iload 4, 2) := by decide +kernel
theorem dX6_countOn_6 : decode cX6_countOn 6 = .ok (.bipush 10, 2) := by decide +kernel
theorem dX6_countOn_8 : decode cX6_countOn 8 = .ok (.if_icmp .le 5, 3) := by decide +kernel
theorem dX6_countOn_11 : decode cX6_countOn 11 = .ok (.iconst 0, 1) := by decide +kernel
theorem dX6_countOn_12 : decode cX6_countOn 12 = .ok (.ireturn, 1) := by decide +kernel
theorem dX6_countOn_13 : decode cX6_countOn 13 = .ok (.iload 4, 2) := by decide +kernel
theorem dX6_countOn_15 : decode cX6_countOn 15 = .ok (.ifCond .gt 5, 3) := by decide +kernel
theorem dX6_countOn_18 : decode cX6_countOn 18 = .ok (.iconst 1, 1) := by decide +kernel
theorem dX6_countOn_19 : decode cX6_countOn 19 = .ok (.ireturn, 1) := by decide +kernel
theorem dX6_countOn_20 : decode cX6_countOn 20 = .ok (.iload_n 3, 1) := by decide +kernel
theorem dX6_countOn_21 : decode cX6_countOn 21 = .ok (.iload 4, 2) := by decide +kernel
theorem dX6_countOn_23 : decode cX6_countOn 23 = .ok (.invokestatic 75, 3) := by decide +kernel
theorem dX6_countOn_26 : decode cX6_countOn 26 = .ok (.istore 5, 2) := by decide +kernel
theorem dX6_countOn_28 : decode cX6_countOn 28 = .ok (.aload_n 0, 1) := by decide +kernel
theorem dX6_countOn_29 : decode cX6_countOn 29 = .ok (.iload 5, 2) := by decide +kernel
theorem dX6_countOn_31 : decode cX6_countOn 31 = .ok (.iload_n 3, 1) := by decide +kernel
theorem dX6_countOn_32 : decode cX6_countOn 32 = .ok (.iload 4, 2) := by decide +kernel
theorem dX6_countOn_34 : decode cX6_countOn 34 = .ok (.invokevirtual 78, 3) := by decide +kernel
theorem dX6_countOn_37 : decode cX6_countOn 37 = .ok (.istore 6, 2) := by decide +kernel
theorem dX6_countOn_39 : decode cX6_countOn 39 = .ok (.iload 6, 2) := by decide +kernel
theorem dX6_countOn_41 : decode cX6_countOn 41 = .ok (.ifCond .lt 6, 3) := by decide +kernel
theorem dX6_countOn_44 : decode cX6_countOn 44 = .ok (.iload 6, 2) := by decide +kernel
theorem dX6_countOn_46 : decode cX6_countOn 46 = .ok (.ireturn, 1) := by decide +kernel
theorem dX6_countOn_47 : decode cX6_countOn 47 = .ok (.iconst 0, 1) := by decide +kernel
theorem dX6_countOn_48 : decode cX6_countOn 48 = .ok (.istore 7, 2) := by decide +kernel
theorem dX6_countOn_50 : decode cX6_countOn 50 = .ok (.iconst 0, 1) := by decide +kernel
theorem dX6_countOn_51 : decode cX6_countOn 51 = .ok (.istore 8, 2) := by decide +kernel
theorem dX6_countOn_53 : decode cX6_countOn 53 = .ok (.iload 8, 2) := by decide +kernel
theorem dX6_countOn_55 : decode cX6_countOn 55 = .ok (.aload_n 1, 1) := by decide +kernel
theorem dX6_countOn_56 : decode cX6_countOn 56 = .ok (.getfield 82, 3) := by decide +kernel
theorem dX6_countOn_59 : decode cX6_countOn 59 = .ok (.if_icmp .ge 33, 3) := by decide +kernel
theorem dX6_countOn_62 : decode cX6_countOn 62 = .ok (.iload 7, 2) := by decide +kernel
theorem dX6_countOn_64 : decode cX6_countOn 64 = .ok (.aload_n 0, 1) := by decide +kernel
theorem dX6_countOn_65 : decode cX6_countOn 65 = .ok (.aload_n 1, 1) := by decide +kernel
theorem dX6_countOn_66 : decode cX6_countOn 66 = .ok (.iload_n 2, 1) := by decide +kernel
theorem dX6_countOn_67 : decode cX6_countOn 67 = .ok (.aload_n 1, 1) := by decide +kernel
theorem dX6_countOn_68 : decode cX6_countOn 68 = .ok (.iload_n 3, 1) := by decide +kernel
theorem dX6_countOn_69 : decode cX6_countOn 69 = .ok (.iload 8, 2) := by decide +kernel
theorem dX6_countOn_71 : decode cX6_countOn 71 = .ok (.invokevirtual 61, 3) := by decide +kernel
theorem dX6_countOn_74 : decode cX6_countOn 74 = .ok (.iload_n 2, 1) := by decide +kernel
theorem dX6_countOn_75 : decode cX6_countOn 75 = .ok (.iand, 1) := by decide +kernel
theorem dX6_countOn_76 : decode cX6_countOn 76 = .ok (.iload 4, 2) := by decide +kernel
theorem dX6_countOn_78 : decode cX6_countOn 78 = .ok (.iconst 1, 1) := by decide +kernel
theorem dX6_countOn_79 : decode cX6_countOn 79 = .ok (.isub, 1) := by decide +kernel
theorem dX6_countOn_80 : decode cX6_countOn 80 = .ok (.invokestatic 71, 3) := by decide +kernel
theorem dX6_countOn_83 : decode cX6_countOn 83 = .ok (.iadd, 1) := by decide +kernel
theorem dX6_countOn_84 : decode cX6_countOn 84 = .ok (.istore 7, 2) := by decide +kernel
theorem dX6_countOn_86 : decode cX6_countOn 86 = .ok (.iinc 8 1, 3) := by decide +kernel
theorem dX6_countOn_89 : decode cX6_countOn 89 = .ok (.goto (-36), 3) := by decide +kernel
theorem dX6_countOn_92 : decode cX6_countOn 92 = .ok (.aload_n 0, 1) := by decide +kernel
theorem dX6_countOn_93 : decode cX6_countOn 93 = .ok (.iload 5, 2) := by decide +kernel
theorem dX6_countOn_95 : decode cX6_countOn 95 = .ok (.iload_n 3, 1) := by decide +kernel
theorem dX6_countOn_96 : decode cX6_countOn 96 = .ok (.iload 4, 2) := by decide +kernel
theorem dX6_countOn_98 : decode cX6_countOn 98 = .ok (.iload 7, 2) := by decide +kernel
theorem dX6_countOn_100 : decode cX6_countOn 100 = .ok (.invokevirtual 85, 3) := by decide +kernel
theorem dX6_countOn_103 : decode cX6_countOn 103 = .ok (.iload 7, 2) := by decide +kernel
theorem dX6_countOn_105 : decode cX6_countOn 105 = .ok (.ireturn, 1) := by decide +kernel
theorem dX6_countPoints_0 : decode cX6_countPoints 0 = .ok (.aload_n 1, 1) := by decide +kernel
theorem dX6_countPoints_1 : decode cX6_countPoints 1 = .ok (.invokevirtual 45, 3) := by decide +kernel
theorem dX6_countPoints_4 : decode cX6_countPoints 4 = .ok (.istore_n 3, 1) := by decide +kernel
theorem dX6_countPoints_5 : decode cX6_countPoints 5 = .ok (.iconst 0, 1) := by decide +kernel
theorem dX6_countPoints_6 : decode cX6_countPoints 6 = .ok (.istore 4, 2) := by decide +kernel
theorem dX6_countPoints_8 : decode cX6_countPoints 8 = .ok (.aload_n 0, 1) := by decide +kernel
theorem dX6_countPoints_9 : decode cX6_countPoints 9 = .ok (.getfield 21, 3) := by decide +kernel
theorem dX6_countPoints_12 : decode cX6_countPoints 12 = .ok (.iconst 0, 1) := by decide +kernel
theorem dX6_countPoints_13 : decode cX6_countPoints 13 = .ok (.invokestatic 65, 3) := by decide +kernel
theorem dX6_countPoints_16 : decode cX6_countPoints 16 = .ok (.iconst 0, 1) := by decide +kernel
theorem dX6_countPoints_17 : decode cX6_countPoints 17 = .ok (.istore 5, 2) := by decide +kernel
theorem dX6_countPoints_19 : decode cX6_countPoints 19 = .ok (.iload 5, 2) := by decide +kernel
theorem dX6_countPoints_21 : decode cX6_countPoints 21 = .ok (.sipush 2187, 3) := by decide +kernel
theorem dX6_countPoints_24 : decode cX6_countPoints 24 = .ok (.if_icmp .ge 37, 3) := by decide +kernel
theorem dX6_countPoints_27 : decode cX6_countPoints 27 = .ok (.aload_n 0, 1) := by decide +kernel
theorem dX6_countPoints_28 : decode cX6_countPoints 28 = .ok (.aload_n 1, 1) := by decide +kernel
theorem dX6_countPoints_29 : decode cX6_countPoints 29 = .ok (.iload_n 3, 1) := by decide +kernel
theorem dX6_countPoints_30 : decode cX6_countPoints 30 = .ok (.iload_n 2, 1) := by decide +kernel
theorem dX6_countPoints_31 : decode cX6_countPoints 31 = .ok (.invokevirtual 89, 3) := by decide +kernel
theorem dX6_countPoints_34 : decode cX6_countPoints 34 = .ok (.ifCond .eq 6, 3) := by decide +kernel
theorem dX6_countPoints_37 : decode cX6_countPoints 37 = .ok (.iinc 4 1, 3) := by decide +kernel
theorem dX6_countPoints_40 : decode cX6_countPoints 40 = .ok (.aload_n 0, 1) := by decide +kernel
theorem dX6_countPoints_41 : decode cX6_countPoints 41 = .ok (.aload_n 1, 1) := by decide +kernel
theorem dX6_countPoints_42 : decode cX6_countPoints 42 = .ok (.getfield 82, 3) := by decide +kernel
theorem dX6_countPoints_45 : decode cX6_countPoints 45 = .ok (.iload_n 2, 1) := by decide +kernel
theorem dX6_countPoints_46 : decode cX6_countPoints 46 = .ok (.invokevirtual 93, 3) := by decide +kernel
theorem dX6_countPoints_49 : decode cX6_countPoints 49 = .ok (.ifCond .ne 6, 3) := by decide +kernel
theorem dX6_countPoints_52 : decode cX6_countPoints 52 = .ok (.goto 9, 3) := by decide +kernel
theorem dX6_countPoints_55 : decode cX6_countPoints 55 = .ok (.iinc 5 1, 3) := by decide +kernel
theorem dX6_countPoints_58 : decode cX6_countPoints 58 = .ok (.goto (-39), 3) := by decide +kernel
theorem dX6_countPoints_61 : decode cX6_countPoints 61 = .ok (.iload 4, 2) := by decide +kernel
theorem dX6_countPoints_63 : decode cX6_countPoints 63 = .ok (.ireturn, 1) := by decide +kernel
theorem dX6_countWords_0 : decode cX6_countWords 0 = .ok (.aload_n 0, 1) := by decide +kernel
theorem dX6_countWords_1 : decode cX6_countWords 1 = .ok (.getfield 15, 3) := by decide +kernel
theorem dX6_countWords_4 : decode cX6_countWords 4 = .ok (.iconst (-1), 1) := by decide +kernel
theorem dX6_countWords_5 : decode cX6_countWords 5 = .ok (.invokestatic 65, 3) := by decide +kernel
theorem dX6_countWords_8 : decode cX6_countWords 8 = .ok (.aload_n 1, 1) := by decide +kernel
theorem dX6_countWords_9 : decode cX6_countWords 9 = .ok (.invokevirtual 45, 3) := by decide +kernel
theorem dX6_countWords_12 : decode cX6_countWords 12 = .ok (.istore_n 3, 1) := by decide +kernel
theorem dX6_countWords_13 : decode cX6_countWords 13 = .ok (.aload_n 0, 1) := by decide +kernel
theorem dX6_countWords_14 : decode cX6_countWords 14 = .ok (.aload_n 1, 1) := by decide +kernel
theorem dX6_countWords_15 : decode cX6_countWords 15 = .ok (.iload_n 3, 1) := by decide +kernel
theorem dX6_countWords_16 : decode cX6_countWords 16 = .ok (.iload_n 3, 1) := by decide +kernel
theorem dX6_countWords_17 : decode cX6_countWords 17 = .ok (.iload_n 2, 1) := by decide +kernel
theorem dX6_countWords_18 : decode cX6_countWords 18 = .ok (.invokestatic 71, 3) := by decide +kernel
theorem dX6_countWords_21 : decode cX6_countWords 21 = .ok (.ireturn, 1) := by decide +kernel
theorem dX6_firstLike_0 : decode cX6_firstLike 0 = .ok (.iconst 0, 1) := by decide +kernel
theorem dX6_firstLike_1 : decode cX6_firstLike 1 = .ok (.istore_n 3, 1) := by decide +kernel
theorem dX6_firstLike_2 : decode cX6_firstLike 2 = .ok (.iload_n 3, 1) := by decide +kernel
theorem dX6_firstLike_3 : decode cX6_firstLike 3 = .ok (.iload_n 1, 1) := by decide +kernel
theorem dX6_firstLike_4 : decode cX6_firstLike 4 = .ok (.if_icmp .ge 80, 3) := by decide +kernel
theorem dX6_firstLike_7 : decode cX6_firstLike 7 = .ok (.aload_n 0, 1) := by decide +kernel
theorem dX6_firstLike_8 : decode cX6_firstLike 8 = .ok (.iload_n 3, 1) := by decide +kernel
theorem dX6_firstLike_9 : decode cX6_firstLike 9 = .ok (.invokevirtual 134, 3) := by decide +kernel
theorem dX6_firstLike_12 : decode cX6_firstLike 12 = .ok (.aload_n 0, 1) := by decide +kernel
theorem dX6_firstLike_13 : decode cX6_firstLike 13 = .ok (.iload_n 1, 1) := by decide +kernel
theorem dX6_firstLike_14 : decode cX6_firstLike 14 = .ok (.invokevirtual 134, 3) := by decide +kernel
theorem dX6_firstLike_17 : decode cX6_firstLike 17 = .ok (.if_icmp .ne 7, 3) := by decide +kernel
theorem dX6_firstLike_20 : decode cX6_firstLike 20 = .ok (.iconst 1, 1) := by decide +kernel
theorem dX6_firstLike_21 : decode cX6_firstLike 21 = .ok (.goto 4, 3) := by decide +kernel
theorem dX6_firstLike_24 : decode cX6_firstLike 24 = .ok (.iconst 0, 1) := by decide +kernel
theorem dX6_firstLike_25 : decode cX6_firstLike 25 = .ok (.istore 4, 2) := by decide +kernel
theorem dX6_firstLike_27 : decode cX6_firstLike 27 = .ok (.iconst 0, 1) := by decide +kernel
theorem dX6_firstLike_28 : decode cX6_firstLike 28 = .ok (.istore 5, 2) := by decide +kernel
theorem dX6_firstLike_30 : decode cX6_firstLike 30 = .ok (.iload 5, 2) := by decide +kernel
theorem dX6_firstLike_32 : decode cX6_firstLike 32 = .ok (.iload_n 2, 1) := by decide +kernel
theorem dX6_firstLike_33 : decode cX6_firstLike 33 = .ok (.if_icmp .ge 38, 3) := by decide +kernel
theorem dX6_firstLike_36 : decode cX6_firstLike 36 = .ok (.iload 4, 2) := by decide +kernel
theorem dX6_firstLike_38 : decode cX6_firstLike 38 = .ok (.ifCond .eq 33, 3) := by decide +kernel
theorem dX6_firstLike_41 : decode cX6_firstLike 41 = .ok (.aload_n 0, 1) := by decide +kernel
theorem dX6_firstLike_42 : decode cX6_firstLike 42 = .ok (.iload_n 3, 1) := by decide +kernel
theorem dX6_firstLike_43 : decode cX6_firstLike 43 = .ok (.iload 5, 2) := by decide +kernel
theorem dX6_firstLike_45 : decode cX6_firstLike 45 = .ok (.invokevirtual 137, 3) := by decide +kernel
theorem dX6_firstLike_48 : decode cX6_firstLike 48 = .ok (.aload_n 0, 1) := by decide +kernel
theorem dX6_firstLike_49 : decode cX6_firstLike 49 = .ok (.iload_n 1, 1) := by decide +kernel
theorem dX6_firstLike_50 : decode cX6_firstLike 50 = .ok (.iload 5, 2) := by decide +kernel
theorem dX6_firstLike_52 : decode cX6_firstLike 52 = .ok (.invokevirtual 137, 3) := by decide +kernel
theorem dX6_firstLike_55 : decode cX6_firstLike 55 = .ok (.if_icmp .ne 7, 3) := by decide +kernel
theorem dX6_firstLike_58 : decode cX6_firstLike 58 = .ok (.iconst 1, 1) := by decide +kernel
theorem dX6_firstLike_59 : decode cX6_firstLike 59 = .ok (.goto 4, 3) := by decide +kernel
theorem dX6_firstLike_62 : decode cX6_firstLike 62 = .ok (.iconst 0, 1) := by decide +kernel
theorem dX6_firstLike_63 : decode cX6_firstLike 63 = .ok (.istore 4, 2) := by decide +kernel
theorem dX6_firstLike_65 : decode cX6_firstLike 65 = .ok (.iinc 5 1, 3) := by decide +kernel
theorem dX6_firstLike_68 : decode cX6_firstLike 68 = .ok (.goto (-38), 3) := by decide +kernel
theorem dX6_firstLike_71 : decode cX6_firstLike 71 = .ok (.iload 4, 2) := by decide +kernel
theorem dX6_firstLike_73 : decode cX6_firstLike 73 = .ok (.ifCond .eq 5, 3) := by decide +kernel
theorem dX6_firstLike_76 : decode cX6_firstLike 76 = .ok (.iload_n 3, 1) := by decide +kernel
theorem dX6_firstLike_77 : decode cX6_firstLike 77 = .ok (.ireturn, 1) := by decide +kernel
theorem dX6_firstLike_78 : decode cX6_firstLike 78 = .ok (.iinc 3 1, 3) := by decide +kernel
theorem dX6_firstLike_81 : decode cX6_firstLike 81 = .ok (.goto (-79), 3) := by decide +kernel
theorem dX6_firstLike_84 : decode cX6_firstLike 84 = .ok (.iload_n 1, 1) := by decide +kernel
theorem dX6_firstLike_85 : decode cX6_firstLike 85 = .ok (.ireturn, 1) := by decide +kernel
theorem dX6_init_0 : decode cX6_init 0 = .ok (.aload_n 0, 1) := by decide +kernel
theorem dX6_init_1 : decode cX6_init 1 = .ok (.invokespecial 3, 3) := by decide +kernel
theorem dX6_init_4 : decode cX6_init 4 = .ok (.aload_n 0, 1) := by decide +kernel
theorem dX6_init_5 : decode cX6_init 5 = .ok (.sipush 1024, 3) := by decide +kernel
theorem dX6_init_8 : decode cX6_init 8 = .ok (.newarray .int, 2) := by decide +kernel
theorem dX6_init_10 : decode cX6_init 10 = .ok (.putfield 11, 3) := by decide +kernel
theorem dX6_init_13 : decode cX6_init 13 = .ok (.aload_n 0, 1) := by decide +kernel
theorem dX6_init_14 : decode cX6_init 14 = .ok (.sipush 1024, 3) := by decide +kernel
theorem dX6_init_17 : decode cX6_init 17 = .ok (.newarray .int, 2) := by decide +kernel
theorem dX6_init_19 : decode cX6_init 19 = .ok (.putfield 15, 3) := by decide +kernel
theorem dX6_init_22 : decode cX6_init 22 = .ok (.aload_n 0, 1) := by decide +kernel
theorem dX6_init_23 : decode cX6_init 23 = .ok (.sipush 1024, 3) := by decide +kernel
theorem dX6_init_26 : decode cX6_init 26 = .ok (.newarray .int, 2) := by decide +kernel
theorem dX6_init_28 : decode cX6_init 28 = .ok (.putfield 18, 3) := by decide +kernel
theorem dX6_init_31 : decode cX6_init 31 = .ok (.aload_n 0, 1) := by decide +kernel
theorem dX6_init_32 : decode cX6_init 32 = .ok (.bipush 7, 2) := by decide +kernel
theorem dX6_init_34 : decode cX6_init 34 = .ok (.newarray .int, 2) := by decide +kernel
theorem dX6_init_36 : decode cX6_init 36 = .ok (.putfield 21, 3) := by decide +kernel
theorem dX6_init_39 : decode cX6_init 39 = .ok (.aload_n 0, 1) := by decide +kernel
theorem dX6_init_40 : decode cX6_init 40 = .ok (.bipush 60, 2) := by decide +kernel
theorem dX6_init_42 : decode cX6_init 42 = .ok (.newarray .int, 2) := by decide +kernel
theorem dX6_init_44 : decode cX6_init 44 = .ok (.putfield 24, 3) := by decide +kernel
theorem dX6_init_47 : decode cX6_init 47 = .ok (.aload_n 0, 1) := by decide +kernel
theorem dX6_init_48 : decode cX6_init 48 = .ok (.sipush 180, 3) := by decide +kernel
theorem dX6_init_51 : decode cX6_init 51 = .ok (.newarray .int, 2) := by decide +kernel
theorem dX6_init_53 : decode cX6_init 53 = .ok (.putfield 27, 3) := by decide +kernel
theorem dX6_init_56 : decode cX6_init 56 = .ok (.aload_n 0, 1) := by decide +kernel
theorem dX6_init_57 : decode cX6_init 57 = .ok (.bipush 60, 2) := by decide +kernel
theorem dX6_init_59 : decode cX6_init 59 = .ok (.newarray .int, 2) := by decide +kernel
theorem dX6_init_61 : decode cX6_init 61 = .ok (.putfield 30, 3) := by decide +kernel
theorem dX6_init_64 : decode cX6_init 64 = .ok (.aload_n 0, 1) := by decide +kernel
theorem dX6_init_65 : decode cX6_init 65 = .ok (.bipush 60, 2) := by decide +kernel
theorem dX6_init_67 : decode cX6_init 67 = .ok (.newarray .int, 2) := by decide +kernel
theorem dX6_init_69 : decode cX6_init 69 = .ok (.putfield 33, 3) := by decide +kernel
theorem dX6_init_72 : decode cX6_init 72 = .ok (.aload_n 0, 1) := by decide +kernel
theorem dX6_init_73 : decode cX6_init 73 = .ok (.sipush 400, 3) := by decide +kernel
theorem dX6_init_76 : decode cX6_init 76 = .ok (.newarray .int, 2) := by decide +kernel
theorem dX6_init_78 : decode cX6_init 78 = .ok (.putfield 36, 3) := by decide +kernel
theorem dX6_init_81 : decode cX6_init 81 = .ok (.aload_n 0, 1) := by decide +kernel
theorem dX6_init_82 : decode cX6_init 82 = .ok (.sipush 400, 3) := by decide +kernel
theorem dX6_init_85 : decode cX6_init 85 = .ok (.newarray .int, 2) := by decide +kernel
theorem dX6_init_87 : decode cX6_init 87 = .ok (.putfield 39, 3) := by decide +kernel
theorem dX6_init_90 : decode cX6_init 90 = .ok (.aload_n 0, 1) := by decide +kernel
theorem dX6_init_91 : decode cX6_init 91 = .ok (.sipush 243, 3) := by decide +kernel
theorem dX6_init_94 : decode cX6_init 94 = .ok (.newarray .int, 2) := by decide +kernel
theorem dX6_init_96 : decode cX6_init 96 = .ok (.putfield 42, 3) := by decide +kernel
theorem dX6_init_99 : decode cX6_init 99 = .ok (.return_, 1) := by decide +kernel
theorem dX6_isAdvanced_0 : decode cX6_isAdvanced 0 = .ok (.iconst 0, 1) := by decide +kernel
theorem dX6_isAdvanced_1 : decode cX6_isAdvanced 1 = .ok (.istore_n 3, 1) := by decide +kernel
theorem dX6_isAdvanced_2 : decode cX6_isAdvanced 2 = .ok (.iload_n 3, 1) := by decide +kernel
theorem dX6_isAdvanced_3 : decode cX6_isAdvanced 3 = .ok (.iload_n 2, 1) := by decide +kernel
theorem dX6_isAdvanced_4 : decode cX6_isAdvanced 4 = .ok (.if_icmp .ge 49, 3) := by decide +kernel
theorem dX6_isAdvanced_7 : decode cX6_isAdvanced 7 = .ok (.iload_n 3, 1) := by decide +kernel
theorem dX6_isAdvanced_8 : decode cX6_isAdvanced 8 = .ok (.aload_n 0, 1) := by decide +kernel
theorem dX6_isAdvanced_9 : decode cX6_isAdvanced 9 = .ok (.getfield 21, 3) := by decide +kernel
theorem dX6_isAdvanced_12 : decode cX6_isAdvanced 12 = .ok (.arraylength, 1) := by decide +kernel
theorem dX6_isAdvanced_13 : decode cX6_isAdvanced 13 = .ok (.if_icmp .ge 40, 3) := by decide +kernel
theorem dX6_isAdvanced_16 : decode cX6_isAdvanced 16 = .ok (.aload_n 0, 1) := by decide +kernel
theorem dX6_isAdvanced_17 : decode cX6_isAdvanced 17 = .ok (.getfield 21, 3) := by decide +kernel
theorem dX6_isAdvanced_20 : decode cX6_isAdvanced 20 = .ok (.iload_n 3, 1) := by decide +kernel
theorem dX6_isAdvanced_21 : decode cX6_isAdvanced 21 = .ok (.iaload, 1) := by decide +kernel
theorem dX6_isAdvanced_22 : decode cX6_isAdvanced 22 = .ok (.iconst 1, 1) := by decide +kernel
theorem dX6_isAdvanced_23 : decode cX6_isAdvanced 23 = .ok (.iadd, 1) := by decide +kernel
theorem dX6_isAdvanced_24 : decode cX6_isAdvanced 24 = .ok (.iload_n 1, 1) := by decide +kernel
theorem dX6_isAdvanced_25 : decode cX6_isAdvanced 25 = .ok (.if_icmp .ge 15, 3) := by decide +kernel
theorem dX6_isAdvanced_28 : decode cX6_isAdvanced 28 = .ok (.aload_n 0, 1) := by decide +kernel
theorem dX6_isAdvanced_29 : decode cX6_isAdvanced 29 = .ok (.getfield 21, 3) := by decide +kernel
theorem dX6_isAdvanced_32 : decode cX6_isAdvanced 32 = .ok (.iload_n 3, 1) := by decide +kernel
theorem dX6_isAdvanced_33 : decode cX6_isAdvanced 33 = .ok (.dup2, 1) := by decide +kernel
theorem dX6_isAdvanced_34 : decode cX6_isAdvanced 34 = .ok (.iaload, 1) := by decide +kernel
theorem dX6_isAdvanced_35 : decode cX6_isAdvanced 35 = .ok (.iconst 1, 1) := by decide +kernel
theorem dX6_isAdvanced_36 : decode cX6_isAdvanced 36 = .ok (.iadd, 1) := by decide +kernel
theorem dX6_isAdvanced_37 : decode cX6_isAdvanced 37 = .ok (.iastore, 1) := by decide +kernel
theorem dX6_isAdvanced_38 : decode cX6_isAdvanced 38 = .ok (.iconst 1, 1) := by decide +kernel
theorem dX6_isAdvanced_39 : decode cX6_isAdvanced 39 = .ok (.ireturn, 1) := by decide +kernel
theorem dX6_isAdvanced_40 : decode cX6_isAdvanced 40 = .ok (.aload_n 0, 1) := by decide +kernel
theorem dX6_isAdvanced_41 : decode cX6_isAdvanced 41 = .ok (.getfield 21, 3) := by decide +kernel
theorem dX6_isAdvanced_44 : decode cX6_isAdvanced 44 = .ok (.iload_n 3, 1) := by decide +kernel
theorem dX6_isAdvanced_45 : decode cX6_isAdvanced 45 = .ok (.iconst 0, 1) := by decide +kernel
theorem dX6_isAdvanced_46 : decode cX6_isAdvanced 46 = .ok (.iastore, 1) := by decide +kernel
theorem dX6_isAdvanced_47 : decode cX6_isAdvanced 47 = .ok (.iinc 3 1, 3) := by decide +kernel
theorem dX6_isAdvanced_50 : decode cX6_isAdvanced 50 = .ok (.goto (-48), 3) := by decide +kernel
theorem dX6_isAdvanced_53 : decode cX6_isAdvanced 53 = .ok (.iconst 0, 1) := by decide +kernel
theorem dX6_isAdvanced_54 : decode cX6_isAdvanced 54 = .ok (.ireturn, 1) := by decide +kernel
theorem dX6_isMet_0 : decode cX6_isMet 0 = .ok (.iconst 0, 1) := by decide +kernel
theorem dX6_isMet_1 : decode cX6_isMet 1 = .ok (.istore 4, 2) := by decide +kernel
theorem dX6_isMet_3 : decode cX6_isMet 3 = .ok (.iload 4, 2) := by decide +kernel
theorem dX6_isMet_5 : decode cX6_isMet 5 = .ok (.iload_n 3, 1) := by decide +kernel
theorem dX6_isMet_6 : decode cX6_isMet 6 = .ok (.if_icmp .ge 53, 3) := by decide +kernel
theorem dX6_isMet_9 : decode cX6_isMet 9 = .ok (.iload 4, 2) := by decide +kernel
theorem dX6_isMet_11 : decode cX6_isMet 11 = .ok (.aload_n 0, 1) := by decide +kernel
theorem dX6_isMet_12 : decode cX6_isMet 12 = .ok (.getfield 36, 3) := by decide +kernel
theorem dX6_isMet_15 : decode cX6_isMet 15 = .ok (.arraylength, 1) := by decide +kernel
theorem dX6_isMet_16 : decode cX6_isMet 16 = .ok (.if_icmp .ge 43, 3) := by decide +kernel
theorem dX6_isMet_19 : decode cX6_isMet 19 = .ok (.iload 4, 2) := by decide +kernel
theorem dX6_isMet_21 : decode cX6_isMet 21 = .ok (.aload_n 0, 1) := by decide +kernel
theorem dX6_isMet_22 : decode cX6_isMet 22 = .ok (.getfield 39, 3) := by decide +kernel
theorem dX6_isMet_25 : decode cX6_isMet 25 = .ok (.arraylength, 1) := by decide +kernel
theorem dX6_isMet_26 : decode cX6_isMet 26 = .ok (.if_icmp .ge 33, 3) := by decide +kernel
theorem dX6_isMet_29 : decode cX6_isMet 29 = .ok (.aload_n 0, 1) := by decide +kernel
theorem dX6_isMet_30 : decode cX6_isMet 30 = .ok (.getfield 36, 3) := by decide +kernel
theorem dX6_isMet_33 : decode cX6_isMet 33 = .ok (.iload 4, 2) := by decide +kernel
theorem dX6_isMet_35 : decode cX6_isMet 35 = .ok (.iaload, 1) := by decide +kernel
theorem dX6_isMet_36 : decode cX6_isMet 36 = .ok (.iload_n 1, 1) := by decide +kernel
theorem dX6_isMet_37 : decode cX6_isMet 37 = .ok (.if_icmp .ne 16, 3) := by decide +kernel
theorem dX6_isMet_40 : decode cX6_isMet 40 = .ok (.aload_n 0, 1) := by decide +kernel
theorem dX6_isMet_41 : decode cX6_isMet 41 = .ok (.getfield 39, 3) := by decide +kernel
theorem dX6_isMet_44 : decode cX6_isMet 44 = .ok (.iload 4, 2) := by decide +kernel
theorem dX6_isMet_46 : decode cX6_isMet 46 = .ok (.iaload, 1) := by decide +kernel
theorem dX6_isMet_47 : decode cX6_isMet 47 = .ok (.iload_n 2, 1) := by decide +kernel
theorem dX6_isMet_48 : decode cX6_isMet 48 = .ok (.if_icmp .ne 5, 3) := by decide +kernel
theorem dX6_isMet_51 : decode cX6_isMet 51 = .ok (.iconst 1, 1) := by decide +kernel
theorem dX6_isMet_52 : decode cX6_isMet 52 = .ok (.ireturn, 1) := by decide +kernel
theorem dX6_isMet_53 : decode cX6_isMet 53 = .ok (.iinc 4 1, 3) := by decide +kernel
theorem dX6_isMet_56 : decode cX6_isMet 56 = .ok (.goto (-53), 3) := by decide +kernel
theorem dX6_isMet_59 : decode cX6_isMet 59 = .ok (.iconst 0, 1) := by decide +kernel
theorem dX6_isMet_60 : decode cX6_isMet 60 = .ok (.ireturn, 1) := by decide +kernel
theorem dX6_isPoint_0 : decode cX6_isPoint 0 = .ok (.iload_n 2, 1) := by decide +kernel
theorem dX6_isPoint_1 : decode cX6_isPoint 1 = .ok (.istore 4, 2) := by decide +kernel
theorem dX6_isPoint_3 : decode cX6_isPoint 3 = .ok (.iconst 0, 1) := by decide +kernel
theorem dX6_isPoint_4 : decode cX6_isPoint 4 = .ok (.istore 5, 2) := by decide +kernel
theorem dX6_isPoint_6 : decode cX6_isPoint 6 = .ok (.iload 5, 2) := by decide +kernel
theorem dX6_isPoint_8 : decode cX6_isPoint 8 = .ok (.bipush 24, 2) := by decide +kernel
theorem dX6_isPoint_10 : decode cX6_isPoint 10 = .ok (.if_icmp .ge 39, 3) := by decide +kernel
theorem dX6_isPoint_13 : decode cX6_isPoint 13 = .ok (.iload 4, 2) := by decide +kernel
theorem dX6_isPoint_15 : decode cX6_isPoint 15 = .ok (.ifCond .eq 34, 3) := by decide +kernel
theorem dX6_isPoint_18 : decode cX6_isPoint 18 = .ok (.aload_n 0, 1) := by decide +kernel
theorem dX6_isPoint_19 : decode cX6_isPoint 19 = .ok (.aload_n 1, 1) := by decide +kernel
theorem dX6_isPoint_20 : decode cX6_isPoint 20 = .ok (.iload_n 2, 1) := by decide +kernel
theorem dX6_isPoint_21 : decode cX6_isPoint 21 = .ok (.iload 4, 2) := by decide +kernel
theorem dX6_isPoint_23 : decode cX6_isPoint 23 = .ok (.iload_n 3, 1) := by decide +kernel
theorem dX6_isPoint_24 : decode cX6_isPoint 24 = .ok (.invokevirtual 97, 3) := by decide +kernel
theorem dX6_isPoint_27 : decode cX6_isPoint 27 = .ok (.istore 6, 2) := by decide +kernel
theorem dX6_isPoint_29 : decode cX6_isPoint 29 = .ok (.iload 6, 2) := by decide +kernel
theorem dX6_isPoint_31 : decode cX6_isPoint 31 = .ok (.iload 4, 2) := by decide +kernel
theorem dX6_isPoint_33 : decode cX6_isPoint 33 = .ok (.if_icmp .ne 6, 3) := by decide +kernel
theorem dX6_isPoint_36 : decode cX6_isPoint 36 = .ok (.goto 13, 3) := by decide +kernel
theorem dX6_isPoint_39 : decode cX6_isPoint 39 = .ok (.iload 6, 2) := by decide +kernel
theorem dX6_isPoint_41 : decode cX6_isPoint 41 = .ok (.istore 4, 2) := by decide +kernel
theorem dX6_isPoint_43 : decode cX6_isPoint 43 = .ok (.iinc 5 1, 3) := by decide +kernel
theorem dX6_isPoint_46 : decode cX6_isPoint 46 = .ok (.goto (-40), 3) := by decide +kernel
theorem dX6_isPoint_49 : decode cX6_isPoint 49 = .ok (.iload 4, 2) := by decide +kernel
theorem dX6_isPoint_51 : decode cX6_isPoint 51 = .ok (.ifCond .eq 7, 3) := by decide +kernel
theorem dX6_isPoint_54 : decode cX6_isPoint 54 = .ok (.iconst 1, 1) := by decide +kernel
theorem dX6_isPoint_55 : decode cX6_isPoint 55 = .ok (.goto 4, 3) := by decide +kernel
theorem dX6_isPoint_58 : decode cX6_isPoint 58 = .ok (.iconst 0, 1) := by decide +kernel
theorem dX6_isPoint_59 : decode cX6_isPoint 59 = .ok (.ireturn, 1) := by decide +kernel
theorem dX6_isUnlike_0 : decode cX6_isUnlike 0 = .ok (.iload_n 0, 1) := by decide +kernel
theorem dX6_isUnlike_1 : decode cX6_isUnlike 1 = .ok (.ifCond .ne 7, 3) := by decide +kernel
theorem dX6_isUnlike_4 : decode cX6_isUnlike 4 = .ok (.iconst 1, 1) := by decide +kernel
theorem dX6_isUnlike_5 : decode cX6_isUnlike 5 = .ok (.goto 4, 3) := by decide +kernel
theorem dX6_isUnlike_8 : decode cX6_isUnlike 8 = .ok (.iconst 0, 1) := by decide +kernel
theorem dX6_isUnlike_9 : decode cX6_isUnlike 9 = .ok (.iload_n 1, 1) := by decide +kernel
theorem dX6_isUnlike_10 : decode cX6_isUnlike 10 = .ok (.ifCond .ne 7, 3) := by decide +kernel
theorem dX6_isUnlike_13 : decode cX6_isUnlike 13 = .ok (.iconst 1, 1) := by decide +kernel
theorem dX6_isUnlike_14 : decode cX6_isUnlike 14 = .ok (.goto 4, 3) := by decide +kernel
theorem dX6_isUnlike_17 : decode cX6_isUnlike 17 = .ok (.iconst 0, 1) := by decide +kernel
theorem dX6_isUnlike_18 : decode cX6_isUnlike 18 = .ok (.if_icmp .eq 7, 3) := by decide +kernel
theorem dX6_isUnlike_21 : decode cX6_isUnlike 21 = .ok (.iconst 1, 1) := by decide +kernel
theorem dX6_isUnlike_22 : decode cX6_isUnlike 22 = .ok (.goto 4, 3) := by decide +kernel
theorem dX6_isUnlike_25 : decode cX6_isUnlike 25 = .ok (.iconst 0, 1) := by decide +kernel
theorem dX6_isUnlike_26 : decode cX6_isUnlike 26 = .ok (.ireturn, 1) := by decide +kernel
theorem dX6_keep_0 : decode cX6_keep 0 = .ok (.iload_n 1, 1) := by decide +kernel
theorem dX6_keep_1 : decode cX6_keep 1 = .ok (.ifCond .lt 52, 3) := by decide +kernel
theorem dX6_keep_4 : decode cX6_keep 4 = .ok (.iload_n 1, 1) := by decide +kernel
theorem dX6_keep_5 : decode cX6_keep 5 = .ok (.aload_n 0, 1) := by decide +kernel
theorem dX6_keep_6 : decode cX6_keep 6 = .ok (.getfield 11, 3) := by decide +kernel
theorem dX6_keep_9 : decode cX6_keep 9 = .ok (.arraylength, 1) := by decide +kernel
theorem dX6_keep_10 : decode cX6_keep 10 = .ok (.if_icmp .ge 43, 3) := by decide +kernel
theorem dX6_keep_13 : decode cX6_keep 13 = .ok (.iload_n 1, 1) := by decide +kernel
theorem dX6_keep_14 : decode cX6_keep 14 = .ok (.aload_n 0, 1) := by decide +kernel
theorem dX6_keep_15 : decode cX6_keep 15 = .ok (.getfield 15, 3) := by decide +kernel
theorem dX6_keep_18 : decode cX6_keep 18 = .ok (.arraylength, 1) := by decide +kernel
theorem dX6_keep_19 : decode cX6_keep 19 = .ok (.if_icmp .ge 34, 3) := by decide +kernel
theorem dX6_keep_22 : decode cX6_keep 22 = .ok (.iload_n 1, 1) := by decide +kernel
theorem dX6_keep_23 : decode cX6_keep 23 = .ok (.aload_n 0, 1) := by decide +kernel
theorem dX6_keep_24 : decode cX6_keep 24 = .ok (.getfield 18, 3) := by decide +kernel
theorem dX6_keep_27 : decode cX6_keep 27 = .ok (.arraylength, 1) := by decide +kernel
theorem dX6_keep_28 : decode cX6_keep 28 = .ok (.if_icmp .ge 25, 3) := by decide +kernel
theorem dX6_keep_31 : decode cX6_keep 31 = .ok (.aload_n 0, 1) := by decide +kernel
theorem dX6_keep_32 : decode cX6_keep 32 = .ok (.getfield 11, 3) := by decide +kernel
theorem dX6_keep_35 : decode cX6_keep 35 = .ok (.iload_n 1, 1) := by decide +kernel
theorem dX6_keep_36 : decode cX6_keep 36 = .ok (.iload_n 2, 1) := by decide +kernel
theorem dX6_keep_37 : decode cX6_keep 37 = .ok (.iastore, 1) := by decide +kernel
theorem dX6_keep_38 : decode cX6_keep 38 = .ok (.aload_n 0, 1) := by decide +kernel
theorem dX6_keep_39 : decode cX6_keep 39 = .ok (.getfield 15, 3) := by decide +kernel
theorem dX6_keep_42 : decode cX6_keep 42 = .ok (.iload_n 1, 1) := by decide +kernel
theorem dX6_keep_43 : decode cX6_keep 43 = .ok (.iload_n 3, 1) := by decide +kernel
theorem dX6_keep_44 : decode cX6_keep 44 = .ok (.iastore, 1) := by decide +kernel
theorem dX6_keep_45 : decode cX6_keep 45 = .ok (.aload_n 0, 1) := by decide +kernel
theorem dX6_keep_46 : decode cX6_keep 46 = .ok (.getfield 18, 3) := by decide +kernel
theorem dX6_keep_49 : decode cX6_keep 49 = .ok (.iload_n 1, 1) := by decide +kernel
theorem dX6_keep_50 : decode cX6_keep 50 = .ok (.iload 4, 2) := by decide +kernel
theorem dX6_keep_52 : decode cX6_keep 52 = .ok (.iastore, 1) := by decide +kernel
theorem dX6_keep_53 : decode cX6_keep 53 = .ok (.return_, 1) := by decide +kernel
theorem dX6_keepPair_0 : decode cX6_keepPair 0 = .ok (.iload_n 1, 1) := by decide +kernel
theorem dX6_keepPair_1 : decode cX6_keepPair 1 = .ok (.ifCond .lt 35, 3) := by decide +kernel
theorem dX6_keepPair_4 : decode cX6_keepPair 4 = .ok (.iload_n 1, 1) := by decide +kernel
theorem dX6_keepPair_5 : decode cX6_keepPair 5 = .ok (.aload_n 0, 1) := by decide +kernel
theorem dX6_keepPair_6 : decode cX6_keepPair 6 = .ok (.getfield 36, 3) := by decide +kernel
theorem dX6_keepPair_9 : decode cX6_keepPair 9 = .ok (.arraylength, 1) := by decide +kernel
theorem dX6_keepPair_10 : decode cX6_keepPair 10 = .ok (.if_icmp .ge 26, 3) := by decide +kernel
theorem dX6_keepPair_13 : decode cX6_keepPair 13 = .ok (.iload_n 1, 1) := by decide +kernel
theorem dX6_keepPair_14 : decode cX6_keepPair 14 = .ok (.aload_n 0, 1) := by decide +kernel
theorem dX6_keepPair_15 : decode cX6_keepPair 15 = .ok (.getfield 39, 3) := by decide +kernel
theorem dX6_keepPair_18 : decode cX6_keepPair 18 = .ok (.arraylength, 1) := by decide +kernel
theorem dX6_keepPair_19 : decode cX6_keepPair 19 = .ok (.if_icmp .ge 17, 3) := by decide +kernel
theorem dX6_keepPair_22 : decode cX6_keepPair 22 = .ok (.aload_n 0, 1) := by decide +kernel
theorem dX6_keepPair_23 : decode cX6_keepPair 23 = .ok (.getfield 36, 3) := by decide +kernel
theorem dX6_keepPair_26 : decode cX6_keepPair 26 = .ok (.iload_n 1, 1) := by decide +kernel
theorem dX6_keepPair_27 : decode cX6_keepPair 27 = .ok (.iload_n 2, 1) := by decide +kernel
theorem dX6_keepPair_28 : decode cX6_keepPair 28 = .ok (.iastore, 1) := by decide +kernel
theorem dX6_keepPair_29 : decode cX6_keepPair 29 = .ok (.aload_n 0, 1) := by decide +kernel
theorem dX6_keepPair_30 : decode cX6_keepPair 30 = .ok (.getfield 39, 3) := by decide +kernel
theorem dX6_keepPair_33 : decode cX6_keepPair 33 = .ok (.iload_n 1, 1) := by decide +kernel
theorem dX6_keepPair_34 : decode cX6_keepPair 34 = .ok (.iload_n 3, 1) := by decide +kernel
theorem dX6_keepPair_35 : decode cX6_keepPair 35 = .ok (.iastore, 1) := by decide +kernel
theorem dX6_keepPair_36 : decode cX6_keepPair 36 = .ok (.return_, 1) := by decide +kernel
theorem dX6_keepSet_0 : decode cX6_keepSet 0 = .ok (.iload_n 1, 1) := by decide +kernel
theorem dX6_keepSet_1 : decode cX6_keepSet 1 = .ok (.ifCond .lt 19, 3) := by decide +kernel
theorem dX6_keepSet_4 : decode cX6_keepSet 4 = .ok (.iload_n 1, 1) := by decide +kernel
theorem dX6_keepSet_5 : decode cX6_keepSet 5 = .ok (.aload_n 0, 1) := by decide +kernel
theorem dX6_keepSet_6 : decode cX6_keepSet 6 = .ok (.getfield 24, 3) := by decide +kernel
theorem dX6_keepSet_9 : decode cX6_keepSet 9 = .ok (.arraylength, 1) := by decide +kernel
theorem dX6_keepSet_10 : decode cX6_keepSet 10 = .ok (.if_icmp .ge 10, 3) := by decide +kernel
theorem dX6_keepSet_13 : decode cX6_keepSet 13 = .ok (.aload_n 0, 1) := by decide +kernel
theorem dX6_keepSet_14 : decode cX6_keepSet 14 = .ok (.getfield 24, 3) := by decide +kernel
theorem dX6_keepSet_17 : decode cX6_keepSet 17 = .ok (.iload_n 1, 1) := by decide +kernel
theorem dX6_keepSet_18 : decode cX6_keepSet 18 = .ok (.iload_n 2, 1) := by decide +kernel
theorem dX6_keepSet_19 : decode cX6_keepSet 19 = .ok (.iastore, 1) := by decide +kernel
theorem dX6_keepSet_20 : decode cX6_keepSet 20 = .ok (.return_, 1) := by decide +kernel
theorem dX6_kindBehind_0 : decode cX6_kindBehind 0 = .ok (.iconst 3, 1) := by decide +kernel
theorem dX6_kindBehind_1 : decode cX6_kindBehind 1 = .ok (.iload_n 1, 1) := by decide +kernel
theorem dX6_kindBehind_2 : decode cX6_kindBehind 2 = .ok (.imul, 1) := by decide +kernel
theorem dX6_kindBehind_3 : decode cX6_kindBehind 3 = .ok (.iload_n 2, 1) := by decide +kernel
theorem dX6_kindBehind_4 : decode cX6_kindBehind 4 = .ok (.iadd, 1) := by decide +kernel
theorem dX6_kindBehind_5 : decode cX6_kindBehind 5 = .ok (.istore_n 3, 1) := by decide +kernel
theorem dX6_kindBehind_6 : decode cX6_kindBehind 6 = .ok (.iload_n 3, 1) := by decide +kernel
theorem dX6_kindBehind_7 : decode cX6_kindBehind 7 = .ok (.ifCond .lt 25, 3) := by decide +kernel
theorem dX6_kindBehind_10 : decode cX6_kindBehind 10 = .ok (.iload_n 3, 1) := by decide +kernel
theorem dX6_kindBehind_11 : decode cX6_kindBehind 11 = .ok (.aload_n 0, 1) := by decide +kernel
theorem dX6_kindBehind_12 : decode cX6_kindBehind 12 = .ok (.getfield 27, 3) := by decide +kernel
theorem dX6_kindBehind_15 : decode cX6_kindBehind 15 = .ok (.arraylength, 1) := by decide +kernel
theorem dX6_kindBehind_16 : decode cX6_kindBehind 16 = .ok (.if_icmp .ge 16, 3) := by decide +kernel
theorem dX6_kindBehind_19 : decode cX6_kindBehind 19 = .ok (.aload_n 0, 1) := by decide +kernel
theorem dX6_kindBehind_20 : decode cX6_kindBehind 20 = .ok (.aload_n 0, 1) := by decide +kernel
theorem dX6_kindBehind_21 : decode cX6_kindBehind 21 = .ok (.getfield 27, 3) := by decide +kernel
theorem dX6_kindBehind_24 : decode cX6_kindBehind 24 = .ok (.iload_n 3, 1) := by decide +kernel
theorem dX6_kindBehind_25 : decode cX6_kindBehind 25 = .ok (.iaload, 1) := by decide +kernel
theorem dX6_kindBehind_26 : decode cX6_kindBehind 26 = .ok (.invokevirtual 134, 3) := by decide +kernel
theorem dX6_kindBehind_29 : decode cX6_kindBehind 29 = .ok (.goto 4, 3) := by decide +kernel
theorem dX6_kindBehind_32 : decode cX6_kindBehind 32 = .ok (.iconst (-1), 1) := by decide +kernel
theorem dX6_kindBehind_33 : decode cX6_kindBehind 33 = .ok (.ireturn, 1) := by decide +kernel
theorem dX6_kindOf_0 : decode cX6_kindOf 0 = .ok (.iload_n 1, 1) := by decide +kernel
theorem dX6_kindOf_1 : decode cX6_kindOf 1 = .ok (.ifCond .lt 21, 3) := by decide +kernel
theorem dX6_kindOf_4 : decode cX6_kindOf 4 = .ok (.iload_n 1, 1) := by decide +kernel
theorem dX6_kindOf_5 : decode cX6_kindOf 5 = .ok (.aload_n 0, 1) := by decide +kernel
theorem dX6_kindOf_6 : decode cX6_kindOf 6 = .ok (.getfield 30, 3) := by decide +kernel
theorem dX6_kindOf_9 : decode cX6_kindOf 9 = .ok (.arraylength, 1) := by decide +kernel
theorem dX6_kindOf_10 : decode cX6_kindOf 10 = .ok (.if_icmp .ge 12, 3) := by decide +kernel
theorem dX6_kindOf_13 : decode cX6_kindOf 13 = .ok (.aload_n 0, 1) := by decide +kernel
theorem dX6_kindOf_14 : decode cX6_kindOf 14 = .ok (.getfield 30, 3) := by decide +kernel
theorem dX6_kindOf_17 : decode cX6_kindOf 17 = .ok (.iload_n 1, 1) := by decide +kernel
theorem dX6_kindOf_18 : decode cX6_kindOf 18 = .ok (.iaload, 1) := by decide +kernel
theorem dX6_kindOf_19 : decode cX6_kindOf 19 = .ok (.goto 4, 3) := by decide +kernel
theorem dX6_kindOf_22 : decode cX6_kindOf 22 = .ok (.iconst (-1), 1) := by decide +kernel
theorem dX6_kindOf_23 : decode cX6_kindOf 23 = .ok (.ireturn, 1) := by decide +kernel
theorem dX6_match_0 : decode cX6_match 0 = .ok (.aload_n 1, 1) := by decide +kernel
theorem dX6_match_1 : decode cX6_match 1 = .ok (.invokevirtual 45, 3) := by decide +kernel
theorem dX6_match_4 : decode cX6_match 4 = .ok (.istore_n 3, 1) := by decide +kernel
theorem dX6_match_5 : decode cX6_match 5 = .ok (.aload_n 2, 1) := by decide +kernel
theorem dX6_match_6 : decode cX6_match 6 = .ok (.invokevirtual 45, 3) := by decide +kernel
theorem dX6_match_9 : decode cX6_match 9 = .ok (.istore 4, 2) := by decide +kernel
theorem dX6_match_11 : decode cX6_match 11 = .ok (.iload_n 3, 1) := by decide +kernel
theorem dX6_match_12 : decode cX6_match 12 = .ok (.iload 4, 2) := by decide +kernel
theorem dX6_match_14 : decode cX6_match 14 = .ok (.invokestatic 140, 3) := by decide +kernel
theorem dX6_match_17 : decode cX6_match 17 = .ok (.ifCond .eq 5, 3) := by decide +kernel
theorem dX6_match_20 : decode cX6_match 20 = .ok (.iconst 0, 1) := by decide +kernel
theorem dX6_match_21 : decode cX6_match 21 = .ok (.ireturn, 1) := by decide +kernel
theorem dX6_match_22 : decode cX6_match 22 = .ok (.aload_n 0, 1) := by decide +kernel
theorem dX6_match_23 : decode cX6_match 23 = .ok (.iconst 0, 1) := by decide +kernel
theorem dX6_match_24 : decode cX6_match 24 = .ok (.iload_n 3, 1) := by decide +kernel
theorem dX6_match_25 : decode cX6_match 25 = .ok (.iload 4, 2) := by decide +kernel
theorem dX6_match_27 : decode cX6_match 27 = .ok (.invokevirtual 143, 3) := by decide +kernel
theorem dX6_match_30 : decode cX6_match 30 = .ok (.iconst 1, 1) := by decide +kernel
theorem dX6_match_31 : decode cX6_match 31 = .ok (.istore 5, 2) := by decide +kernel
theorem dX6_match_33 : decode cX6_match 33 = .ok (.iconst 0, 1) := by decide +kernel
theorem dX6_match_34 : decode cX6_match 34 = .ok (.istore 6, 2) := by decide +kernel
theorem dX6_match_36 : decode cX6_match 36 = .ok (.iload 6, 2) := by decide +kernel
theorem dX6_match_38 : decode cX6_match 38 = .ok (.iload 5, 2) := by decide +kernel
theorem dX6_match_40 : decode cX6_match 40 = .ok (.if_icmp .ge 143, 3) := by decide +kernel
theorem dX6_match_43 : decode cX6_match 43 = .ok (.iload 6, 2) := by decide +kernel
theorem dX6_match_45 : decode cX6_match 45 = .ok (.aload_n 0, 1) := by decide +kernel
theorem dX6_match_46 : decode cX6_match 46 = .ok (.getfield 36, 3) := by decide +kernel
theorem dX6_match_49 : decode cX6_match 49 = .ok (.arraylength, 1) := by decide +kernel
theorem dX6_match_50 : decode cX6_match 50 = .ok (.if_icmp .ge 133, 3) := by decide +kernel
theorem dX6_match_53 : decode cX6_match 53 = .ok (.iload 6, 2) := by decide +kernel
theorem dX6_match_55 : decode cX6_match 55 = .ok (.aload_n 0, 1) := by decide +kernel
theorem dX6_match_56 : decode cX6_match 56 = .ok (.getfield 39, 3) := by decide +kernel
theorem dX6_match_59 : decode cX6_match 59 = .ok (.arraylength, 1) := by decide +kernel
theorem dX6_match_60 : decode cX6_match 60 = .ok (.if_icmp .ge 123, 3) := by decide +kernel
theorem dX6_match_63 : decode cX6_match 63 = .ok (.aload_n 0, 1) := by decide +kernel
theorem dX6_match_64 : decode cX6_match 64 = .ok (.getfield 36, 3) := by decide +kernel
theorem dX6_match_67 : decode cX6_match 67 = .ok (.iload 6, 2) := by decide +kernel
theorem dX6_match_69 : decode cX6_match 69 = .ok (.iaload, 1) := by decide +kernel
theorem dX6_match_70 : decode cX6_match 70 = .ok (.istore 7, 2) := by decide +kernel
theorem dX6_match_72 : decode cX6_match 72 = .ok (.aload_n 0, 1) := by decide +kernel
theorem dX6_match_73 : decode cX6_match 73 = .ok (.getfield 39, 3) := by decide +kernel
theorem dX6_match_76 : decode cX6_match 76 = .ok (.iload 6, 2) := by decide +kernel
theorem dX6_match_78 : decode cX6_match 78 = .ok (.iaload, 1) := by decide +kernel
theorem dX6_match_79 : decode cX6_match 79 = .ok (.istore 8, 2) := by decide +kernel
theorem dX6_match_81 : decode cX6_match 81 = .ok (.iconst 0, 1) := by decide +kernel
theorem dX6_match_82 : decode cX6_match 82 = .ok (.istore 9, 2) := by decide +kernel
theorem dX6_match_84 : decode cX6_match 84 = .ok (.iload 9, 2) := by decide +kernel
theorem dX6_match_86 : decode cX6_match 86 = .ok (.aload_n 1, 1) := by decide +kernel
theorem dX6_match_87 : decode cX6_match 87 = .ok (.getfield 82, 3) := by decide +kernel
theorem dX6_match_90 : decode cX6_match 90 = .ok (.if_icmp .ge 87, 3) := by decide +kernel
theorem dX6_match_93 : decode cX6_match 93 = .ok (.iload 7, 2) := by decide +kernel
theorem dX6_match_95 : decode cX6_match 95 = .ok (.ifCond .eq 82, 3) := by decide +kernel
theorem dX6_match_98 : decode cX6_match 98 = .ok (.aload_n 1, 1) := by decide +kernel
theorem dX6_match_99 : decode cX6_match 99 = .ok (.iload 7, 2) := by decide +kernel
theorem dX6_match_101 : decode cX6_match 101 = .ok (.iload 9, 2) := by decide +kernel
theorem dX6_match_103 : decode cX6_match 103 = .ok (.invokevirtual 61, 3) := by decide +kernel
theorem dX6_match_106 : decode cX6_match 106 = .ok (.iload_n 3, 1) := by decide +kernel
theorem dX6_match_107 : decode cX6_match 107 = .ok (.iand, 1) := by decide +kernel
theorem dX6_match_108 : decode cX6_match 108 = .ok (.istore 10, 2) := by decide +kernel
theorem dX6_match_110 : decode cX6_match 110 = .ok (.aload_n 2, 1) := by decide +kernel
theorem dX6_match_111 : decode cX6_match 111 = .ok (.iload 8, 2) := by decide +kernel
theorem dX6_match_113 : decode cX6_match 113 = .ok (.iload 9, 2) := by decide +kernel
theorem dX6_match_115 : decode cX6_match 115 = .ok (.invokevirtual 61, 3) := by decide +kernel
theorem dX6_match_118 : decode cX6_match 118 = .ok (.iload 4, 2) := by decide +kernel
theorem dX6_match_120 : decode cX6_match 120 = .ok (.iand, 1) := by decide +kernel
theorem dX6_match_121 : decode cX6_match 121 = .ok (.istore 11, 2) := by decide +kernel
theorem dX6_match_123 : decode cX6_match 123 = .ok (.iload 10, 2) := by decide +kernel
theorem dX6_match_125 : decode cX6_match 125 = .ok (.iload 11, 2) := by decide +kernel
theorem dX6_match_127 : decode cX6_match 127 = .ok (.invokestatic 140, 3) := by decide +kernel
theorem dX6_match_130 : decode cX6_match 130 = .ok (.ifCond .eq 5, 3) := by decide +kernel
theorem dX6_match_133 : decode cX6_match 133 = .ok (.iconst 0, 1) := by decide +kernel
theorem dX6_match_134 : decode cX6_match 134 = .ok (.ireturn, 1) := by decide +kernel
theorem dX6_match_135 : decode cX6_match 135 = .ok (.aload_n 0, 1) := by decide +kernel
theorem dX6_match_136 : decode cX6_match 136 = .ok (.iload 10, 2) := by decide +kernel
theorem dX6_match_138 : decode cX6_match 138 = .ok (.iload 11, 2) := by decide +kernel
theorem dX6_match_140 : decode cX6_match 140 = .ok (.iload 5, 2) := by decide +kernel
theorem dX6_match_142 : decode cX6_match 142 = .ok (.invokevirtual 146, 3) := by decide +kernel
theorem dX6_match_145 : decode cX6_match 145 = .ok (.ifCond .ne 26, 3) := by decide +kernel
theorem dX6_match_148 : decode cX6_match 148 = .ok (.iload 5, 2) := by decide +kernel
theorem dX6_match_150 : decode cX6_match 150 = .ok (.sipush 400, 3) := by decide +kernel
theorem dX6_match_153 : decode cX6_match 153 = .ok (.if_icmp .lt 5, 3) := by decide +kernel
theorem dX6_match_156 : decode cX6_match 156 = .ok (.iconst (-1), 1) := by decide +kernel
theorem dX6_match_157 : decode cX6_match 157 = .ok (.ireturn, 1) := by decide +kernel
theorem dX6_match_158 : decode cX6_match 158 = .ok (.aload_n 0, 1) := by decide +kernel
theorem dX6_match_159 : decode cX6_match 159 = .ok (.iload 5, 2) := by decide +kernel
theorem dX6_match_161 : decode cX6_match 161 = .ok (.iload 10, 2) := by decide +kernel
theorem dX6_match_163 : decode cX6_match 163 = .ok (.iload 11, 2) := by decide +kernel
theorem dX6_match_165 : decode cX6_match 165 = .ok (.invokevirtual 143, 3) := by decide +kernel
theorem dX6_match_168 : decode cX6_match 168 = .ok (.iinc 5 1, 3) := by decide +kernel
theorem dX6_match_171 : decode cX6_match 171 = .ok (.iinc 9 1, 3) := by decide +kernel
theorem dX6_match_174 : decode cX6_match 174 = .ok (.goto (-90), 3) := by decide +kernel
theorem dX6_match_177 : decode cX6_match 177 = .ok (.iinc 6 1, 3) := by decide +kernel
theorem dX6_match_180 : decode cX6_match 180 = .ok (.goto (-144), 3) := by decide +kernel
theorem dX6_match_183 : decode cX6_match 183 = .ok (.iconst 1, 1) := by decide +kernel
theorem dX6_match_184 : decode cX6_match 184 = .ok (.ireturn, 1) := by decide +kernel
theorem dX6_noteMove_0 : decode cX6_noteMove 0 = .ok (.iconst 3, 1) := by decide +kernel
theorem dX6_noteMove_1 : decode cX6_noteMove 1 = .ok (.iload_n 1, 1) := by decide +kernel
theorem dX6_noteMove_2 : decode cX6_noteMove 2 = .ok (.imul, 1) := by decide +kernel
theorem dX6_noteMove_3 : decode cX6_noteMove 3 = .ok (.iload_n 2, 1) := by decide +kernel
theorem dX6_noteMove_4 : decode cX6_noteMove 4 = .ok (.iadd, 1) := by decide +kernel
theorem dX6_noteMove_5 : decode cX6_noteMove 5 = .ok (.istore 4, 2) := by decide +kernel
theorem dX6_noteMove_7 : decode cX6_noteMove 7 = .ok (.iload 4, 2) := by decide +kernel
theorem dX6_noteMove_9 : decode cX6_noteMove 9 = .ok (.ifCond .lt 21, 3) := by decide +kernel
theorem dX6_noteMove_12 : decode cX6_noteMove 12 = .ok (.iload 4, 2) := by decide +kernel
theorem dX6_noteMove_14 : decode cX6_noteMove 14 = .ok (.aload_n 0, 1) := by decide +kernel
theorem dX6_noteMove_15 : decode cX6_noteMove 15 = .ok (.getfield 27, 3) := by decide +kernel
theorem dX6_noteMove_18 : decode cX6_noteMove 18 = .ok (.arraylength, 1) := by decide +kernel
theorem dX6_noteMove_19 : decode cX6_noteMove 19 = .ok (.if_icmp .ge 11, 3) := by decide +kernel
theorem dX6_noteMove_22 : decode cX6_noteMove 22 = .ok (.aload_n 0, 1) := by decide +kernel
theorem dX6_noteMove_23 : decode cX6_noteMove 23 = .ok (.getfield 27, 3) := by decide +kernel
theorem dX6_noteMove_26 : decode cX6_noteMove 26 = .ok (.iload 4, 2) := by decide +kernel
theorem dX6_noteMove_28 : decode cX6_noteMove 28 = .ok (.iload_n 3, 1) := by decide +kernel
theorem dX6_noteMove_29 : decode cX6_noteMove 29 = .ok (.iastore, 1) := by decide +kernel
theorem dX6_noteMove_30 : decode cX6_noteMove 30 = .ok (.return_, 1) := by decide +kernel
theorem dX6_placeOfSet_0 : decode cX6_placeOfSet 0 = .ok (.iconst 0, 1) := by decide +kernel
theorem dX6_placeOfSet_1 : decode cX6_placeOfSet 1 = .ok (.istore_n 3, 1) := by decide +kernel
theorem dX6_placeOfSet_2 : decode cX6_placeOfSet 2 = .ok (.iload_n 3, 1) := by decide +kernel
theorem dX6_placeOfSet_3 : decode cX6_placeOfSet 3 = .ok (.iload_n 2, 1) := by decide +kernel
theorem dX6_placeOfSet_4 : decode cX6_placeOfSet 4 = .ok (.if_icmp .ge 30, 3) := by decide +kernel
theorem dX6_placeOfSet_7 : decode cX6_placeOfSet 7 = .ok (.iload_n 3, 1) := by decide +kernel
theorem dX6_placeOfSet_8 : decode cX6_placeOfSet 8 = .ok (.aload_n 0, 1) := by decide +kernel
theorem dX6_placeOfSet_9 : decode cX6_placeOfSet 9 = .ok (.getfield 24, 3) := by decide +kernel
theorem dX6_placeOfSet_12 : decode cX6_placeOfSet 12 = .ok (.arraylength, 1) := by decide +kernel
theorem dX6_placeOfSet_13 : decode cX6_placeOfSet 13 = .ok (.if_icmp .ge 21, 3) := by decide +kernel
theorem dX6_placeOfSet_16 : decode cX6_placeOfSet 16 = .ok (.aload_n 0, 1) := by decide +kernel
theorem dX6_placeOfSet_17 : decode cX6_placeOfSet 17 = .ok (.getfield 24, 3) := by decide +kernel
theorem dX6_placeOfSet_20 : decode cX6_placeOfSet 20 = .ok (.iload_n 3, 1) := by decide +kernel
theorem dX6_placeOfSet_21 : decode cX6_placeOfSet 21 = .ok (.iaload, 1) := by decide +kernel
theorem dX6_placeOfSet_22 : decode cX6_placeOfSet 22 = .ok (.iload_n 1, 1) := by decide +kernel
theorem dX6_placeOfSet_23 : decode cX6_placeOfSet 23 = .ok (.if_icmp .ne 5, 3) := by decide +kernel
theorem dX6_placeOfSet_26 : decode cX6_placeOfSet 26 = .ok (.iload_n 3, 1) := by decide +kernel
theorem dX6_placeOfSet_27 : decode cX6_placeOfSet 27 = .ok (.ireturn, 1) := by decide +kernel
theorem dX6_placeOfSet_28 : decode cX6_placeOfSet 28 = .ok (.iinc 3 1, 3) := by decide +kernel
theorem dX6_placeOfSet_31 : decode cX6_placeOfSet 31 = .ok (.goto (-29), 3) := by decide +kernel
theorem dX6_placeOfSet_34 : decode cX6_placeOfSet 34 = .ok (.iload_n 2, 1) := by decide +kernel
theorem dX6_placeOfSet_35 : decode cX6_placeOfSet 35 = .ok (.ireturn, 1) := by decide +kernel
theorem dX6_readRow_0 : decode cX6_readRow 0 = .ok (.iload_n 3, 1) := by decide +kernel
theorem dX6_readRow_1 : decode cX6_readRow 1 = .ok (.istore 5, 2) := by decide +kernel
theorem dX6_readRow_3 : decode cX6_readRow 3 = .ok (.iconst 0, 1) := by decide +kernel
theorem dX6_readRow_4 : decode cX6_readRow 4 = .ok (.istore 6, 2) := by decide +kernel
theorem dX6_readRow_6 : decode cX6_readRow 6 = .ok (.iload 6, 2) := by decide +kernel
theorem dX6_readRow_8 : decode cX6_readRow 8 = .ok (.iload 4, 2) := by decide +kernel
theorem dX6_readRow_10 : decode cX6_readRow 10 = .ok (.if_icmp .ge 41, 3) := by decide +kernel
theorem dX6_readRow_13 : decode cX6_readRow 13 = .ok (.iload 6, 2) := by decide +kernel
theorem dX6_readRow_15 : decode cX6_readRow 15 = .ok (.aload_n 0, 1) := by decide +kernel
theorem dX6_readRow_16 : decode cX6_readRow 16 = .ok (.getfield 21, 3) := by decide +kernel
theorem dX6_readRow_19 : decode cX6_readRow 19 = .ok (.arraylength, 1) := by decide +kernel
theorem dX6_readRow_20 : decode cX6_readRow 20 = .ok (.if_icmp .ge 31, 3) := by decide +kernel
theorem dX6_readRow_23 : decode cX6_readRow 23 = .ok (.iload 5, 2) := by decide +kernel
theorem dX6_readRow_25 : decode cX6_readRow 25 = .ok (.ifCond .eq 26, 3) := by decide +kernel
theorem dX6_readRow_28 : decode cX6_readRow 28 = .ok (.aload_n 1, 1) := by decide +kernel
theorem dX6_readRow_29 : decode cX6_readRow 29 = .ok (.iload 5, 2) := by decide +kernel
theorem dX6_readRow_31 : decode cX6_readRow 31 = .ok (.aload_n 0, 1) := by decide +kernel
theorem dX6_readRow_32 : decode cX6_readRow 32 = .ok (.getfield 21, 3) := by decide +kernel
theorem dX6_readRow_35 : decode cX6_readRow 35 = .ok (.iload 6, 2) := by decide +kernel
theorem dX6_readRow_37 : decode cX6_readRow 37 = .ok (.iaload, 1) := by decide +kernel
theorem dX6_readRow_38 : decode cX6_readRow 38 = .ok (.invokevirtual 61, 3) := by decide +kernel
theorem dX6_readRow_41 : decode cX6_readRow 41 = .ok (.iload_n 2, 1) := by decide +kernel
theorem dX6_readRow_42 : decode cX6_readRow 42 = .ok (.iand, 1) := by decide +kernel
theorem dX6_readRow_43 : decode cX6_readRow 43 = .ok (.istore 5, 2) := by decide +kernel
theorem dX6_readRow_45 : decode cX6_readRow 45 = .ok (.iinc 6 1, 3) := by decide +kernel
theorem dX6_readRow_48 : decode cX6_readRow 48 = .ok (.goto (-42), 3) := by decide +kernel
theorem dX6_readRow_51 : decode cX6_readRow 51 = .ok (.iload 5, 2) := by decide +kernel
theorem dX6_readRow_53 : decode cX6_readRow 53 = .ok (.ireturn, 1) := by decide +kernel
theorem dX6_recall_0 : decode cX6_recall 0 = .ok (.iload_n 1, 1) := by decide +kernel
theorem dX6_recall_1 : decode cX6_recall 1 = .ok (.ifCond .lt 30, 3) := by decide +kernel
theorem dX6_recall_4 : decode cX6_recall 4 = .ok (.iload_n 1, 1) := by decide +kernel
theorem dX6_recall_5 : decode cX6_recall 5 = .ok (.aload_n 0, 1) := by decide +kernel
theorem dX6_recall_6 : decode cX6_recall 6 = .ok (.getfield 11, 3) := by decide +kernel
theorem dX6_recall_9 : decode cX6_recall 9 = .ok (.arraylength, 1) := by decide +kernel
theorem dX6_recall_10 : decode cX6_recall 10 = .ok (.if_icmp .ge 21, 3) := by decide +kernel
theorem dX6_recall_13 : decode cX6_recall 13 = .ok (.iload_n 1, 1) := by decide +kernel
theorem dX6_recall_14 : decode cX6_recall 14 = .ok (.aload_n 0, 1) := by decide +kernel
theorem dX6_recall_15 : decode cX6_recall 15 = .ok (.getfield 15, 3) := by decide +kernel
theorem dX6_recall_18 : decode cX6_recall 18 = .ok (.arraylength, 1) := by decide +kernel
theorem dX6_recall_19 : decode cX6_recall 19 = .ok (.if_icmp .ge 12, 3) := by decide +kernel
theorem dX6_recall_22 : decode cX6_recall 22 = .ok (.iload_n 1, 1) := by decide +kernel
theorem dX6_recall_23 : decode cX6_recall 23 = .ok (.aload_n 0, 1) := by decide +kernel
theorem dX6_recall_24 : decode cX6_recall 24 = .ok (.getfield 18, 3) := by decide +kernel
theorem dX6_recall_27 : decode cX6_recall 27 = .ok (.arraylength, 1) := by decide +kernel
theorem dX6_recall_28 : decode cX6_recall 28 = .ok (.if_icmp .lt 5, 3) := by decide +kernel
theorem dX6_recall_31 : decode cX6_recall 31 = .ok (.iconst (-1), 1) := by decide +kernel
theorem dX6_recall_32 : decode cX6_recall 32 = .ok (.ireturn, 1) := by decide +kernel
theorem dX6_recall_33 : decode cX6_recall 33 = .ok (.aload_n 0, 1) := by decide +kernel
theorem dX6_recall_34 : decode cX6_recall 34 = .ok (.getfield 11, 3) := by decide +kernel
theorem dX6_recall_37 : decode cX6_recall 37 = .ok (.iload_n 1, 1) := by decide +kernel
theorem dX6_recall_38 : decode cX6_recall 38 = .ok (.iaload, 1) := by decide +kernel
theorem dX6_recall_39 : decode cX6_recall 39 = .ok (.iload_n 2, 1) := by decide +kernel
theorem dX6_recall_40 : decode cX6_recall 40 = .ok (.if_icmp .ne 22, 3) := by decide +kernel
theorem dX6_recall_43 : decode cX6_recall 43 = .ok (.aload_n 0, 1) := by decide +kernel
theorem dX6_recall_44 : decode cX6_recall 44 = .ok (.getfield 15, 3) := by decide +kernel
theorem dX6_recall_47 : decode cX6_recall 47 = .ok (.iload_n 1, 1) := by decide +kernel
theorem dX6_recall_48 : decode cX6_recall 48 = .ok (.iaload, 1) := by decide +kernel
theorem dX6_recall_49 : decode cX6_recall 49 = .ok (.iload_n 3, 1) := by decide +kernel
theorem dX6_recall_50 : decode cX6_recall 50 = .ok (.if_icmp .ne 12, 3) := by decide +kernel
theorem dX6_recall_53 : decode cX6_recall 53 = .ok (.aload_n 0, 1) := by decide +kernel
theorem dX6_recall_54 : decode cX6_recall 54 = .ok (.getfield 18, 3) := by decide +kernel
theorem dX6_recall_57 : decode cX6_recall 57 = .ok (.iload_n 1, 1) := by decide +kernel
theorem dX6_recall_58 : decode cX6_recall 58 = .ok (.iaload, 1) := by decide +kernel
theorem dX6_recall_59 : decode cX6_recall 59 = .ok (.goto 4, 3) := by decide +kernel
theorem dX6_recall_62 : decode cX6_recall 62 = .ok (.iconst (-1), 1) := by decide +kernel
theorem dX6_recall_63 : decode cX6_recall 63 = .ok (.ireturn, 1) := by decide +kernel
theorem dX6_refine_0 : decode cX6_refine 0 = .ok (.iconst 0, 1) := by decide +kernel
theorem dX6_refine_1 : decode cX6_refine 1 = .ok (.istore_n 3, 1) := by decide +kernel
theorem dX6_refine_2 : decode cX6_refine 2 = .ok (.iconst 0, 1) := by decide +kernel
theorem dX6_refine_3 : decode cX6_refine 3 = .ok (.istore 4, 2) := by decide +kernel
theorem dX6_refine_5 : decode cX6_refine 5 = .ok (.iload 4, 2) := by decide +kernel
theorem dX6_refine_7 : decode cX6_refine 7 = .ok (.iload_n 1, 1) := by decide +kernel
theorem dX6_refine_8 : decode cX6_refine 8 = .ok (.if_icmp .ge 68, 3) := by decide +kernel
theorem dX6_refine_11 : decode cX6_refine 11 = .ok (.iload 4, 2) := by decide +kernel
theorem dX6_refine_13 : decode cX6_refine 13 = .ok (.aload_n 0, 1) := by decide +kernel
theorem dX6_refine_14 : decode cX6_refine 14 = .ok (.getfield 33, 3) := by decide +kernel
theorem dX6_refine_17 : decode cX6_refine 17 = .ok (.arraylength, 1) := by decide +kernel
theorem dX6_refine_18 : decode cX6_refine 18 = .ok (.if_icmp .ge 58, 3) := by decide +kernel
theorem dX6_refine_21 : decode cX6_refine 21 = .ok (.aload_n 0, 1) := by decide +kernel
theorem dX6_refine_22 : decode cX6_refine 22 = .ok (.iload 4, 2) := by decide +kernel
theorem dX6_refine_24 : decode cX6_refine 24 = .ok (.iload_n 2, 1) := by decide +kernel
theorem dX6_refine_25 : decode cX6_refine 25 = .ok (.invokevirtual 131, 3) := by decide +kernel
theorem dX6_refine_28 : decode cX6_refine 28 = .ok (.istore 5, 2) := by decide +kernel
theorem dX6_refine_30 : decode cX6_refine 30 = .ok (.iload 5, 2) := by decide +kernel
theorem dX6_refine_32 : decode cX6_refine 32 = .ok (.iload 4, 2) := by decide +kernel
theorem dX6_refine_34 : decode cX6_refine 34 = .ok (.if_icmp .ge 25, 3) := by decide +kernel
theorem dX6_refine_37 : decode cX6_refine 37 = .ok (.iload 5, 2) := by decide +kernel
theorem dX6_refine_39 : decode cX6_refine 39 = .ok (.ifCond .lt 20, 3) := by decide +kernel
theorem dX6_refine_42 : decode cX6_refine 42 = .ok (.aload_n 0, 1) := by decide +kernel
theorem dX6_refine_43 : decode cX6_refine 43 = .ok (.getfield 33, 3) := by decide +kernel
theorem dX6_refine_46 : decode cX6_refine 46 = .ok (.iload 4, 2) := by decide +kernel
theorem dX6_refine_48 : decode cX6_refine 48 = .ok (.aload_n 0, 1) := by decide +kernel
theorem dX6_refine_49 : decode cX6_refine 49 = .ok (.getfield 33, 3) := by decide +kernel
theorem dX6_refine_52 : decode cX6_refine 52 = .ok (.iload 5, 2) := by decide +kernel
theorem dX6_refine_54 : decode cX6_refine 54 = .ok (.iaload, 1) := by decide +kernel
theorem dX6_refine_55 : decode cX6_refine 55 = .ok (.iastore, 1) := by decide +kernel
theorem dX6_refine_56 : decode cX6_refine 56 = .ok (.goto 14, 3) := by decide +kernel
theorem dX6_refine_59 : decode cX6_refine 59 = .ok (.aload_n 0, 1) := by decide +kernel
theorem dX6_refine_60 : decode cX6_refine 60 = .ok (.getfield 33, 3) := by decide +kernel
theorem dX6_refine_63 : decode cX6_refine 63 = .ok (.iload 4, 2) := by decide +kernel
theorem dX6_refine_65 : decode cX6_refine 65 = .ok (.iload_n 3, 1) := by decide +kernel
theorem dX6_refine_66 : decode cX6_refine 66 = .ok (.iastore, 1) := by decide +kernel
theorem dX6_refine_67 : decode cX6_refine 67 = .ok (.iinc 3 1, 3) := by decide +kernel
theorem dX6_refine_70 : decode cX6_refine 70 = .ok (.iinc 4 1, 3) := by decide +kernel
theorem dX6_refine_73 : decode cX6_refine 73 = .ok (.goto (-68), 3) := by decide +kernel
theorem dX6_refine_76 : decode cX6_refine 76 = .ok (.iconst 0, 1) := by decide +kernel
theorem dX6_refine_77 : decode cX6_refine 77 = .ok (.istore 4, 2) := by decide +kernel
theorem dX6_refine_79 : decode cX6_refine 79 = .ok (.iload 4, 2) := by decide +kernel
theorem dX6_refine_81 : decode cX6_refine 81 = .ok (.iload_n 1, 1) := by decide +kernel
theorem dX6_refine_82 : decode cX6_refine 82 = .ok (.if_icmp .ge 43, 3) := by decide +kernel
theorem dX6_refine_85 : decode cX6_refine 85 = .ok (.iload 4, 2) := by decide +kernel
theorem dX6_refine_87 : decode cX6_refine 87 = .ok (.aload_n 0, 1) := by decide +kernel
theorem dX6_refine_88 : decode cX6_refine 88 = .ok (.getfield 30, 3) := by decide +kernel
theorem dX6_refine_91 : decode cX6_refine 91 = .ok (.arraylength, 1) := by decide +kernel
theorem dX6_refine_92 : decode cX6_refine 92 = .ok (.if_icmp .ge 33, 3) := by decide +kernel
theorem dX6_refine_95 : decode cX6_refine 95 = .ok (.iload 4, 2) := by decide +kernel
theorem dX6_refine_97 : decode cX6_refine 97 = .ok (.aload_n 0, 1) := by decide +kernel
theorem dX6_refine_98 : decode cX6_refine 98 = .ok (.getfield 33, 3) := by decide +kernel
theorem dX6_refine_101 : decode cX6_refine 101 = .ok (.arraylength, 1) := by decide +kernel
theorem dX6_refine_102 : decode cX6_refine 102 = .ok (.if_icmp .ge 23, 3) := by decide +kernel
theorem dX6_refine_105 : decode cX6_refine 105 = .ok (.aload_n 0, 1) := by decide +kernel
theorem dX6_refine_106 : decode cX6_refine 106 = .ok (.getfield 30, 3) := by decide +kernel
theorem dX6_refine_109 : decode cX6_refine 109 = .ok (.iload 4, 2) := by decide +kernel
theorem dX6_refine_111 : decode cX6_refine 111 = .ok (.aload_n 0, 1) := by decide +kernel
theorem dX6_refine_112 : decode cX6_refine 112 = .ok (.getfield 33, 3) := by decide +kernel
theorem dX6_refine_115 : decode cX6_refine 115 = .ok (.iload 4, 2) := by decide +kernel
theorem dX6_refine_117 : decode cX6_refine 117 = .ok (.iaload, 1) := by decide +kernel
theorem dX6_refine_118 : decode cX6_refine 118 = .ok (.iastore, 1) := by decide +kernel
theorem dX6_refine_119 : decode cX6_refine 119 = .ok (.iinc 4 1, 3) := by decide +kernel
theorem dX6_refine_122 : decode cX6_refine 122 = .ok (.goto (-43), 3) := by decide +kernel
theorem dX6_refine_125 : decode cX6_refine 125 = .ok (.iload_n 3, 1) := by decide +kernel
theorem dX6_refine_126 : decode cX6_refine 126 = .ok (.ireturn, 1) := by decide +kernel
theorem dX6_slotOf_0 : decode cX6_slotOf 0 = .ok (.iload_n 0, 1) := by decide +kernel
theorem dX6_slotOf_1 : decode cX6_slotOf 1 = .ok (.bipush 31, 2) := by decide +kernel
theorem dX6_slotOf_3 : decode cX6_slotOf 3 = .ok (.imul, 1) := by decide +kernel
theorem dX6_slotOf_4 : decode cX6_slotOf 4 = .ok (.iload_n 1, 1) := by decide +kernel
theorem dX6_slotOf_5 : decode cX6_slotOf 5 = .ok (.iadd, 1) := by decide +kernel
theorem dX6_slotOf_6 : decode cX6_slotOf 6 = .ok (.istore_n 2, 1) := by decide +kernel
theorem dX6_slotOf_7 : decode cX6_slotOf 7 = .ok (.iload_n 2, 1) := by decide +kernel
theorem dX6_slotOf_8 : decode cX6_slotOf 8 = .ok (.iload_n 2, 1) := by decide +kernel
theorem dX6_slotOf_9 : decode cX6_slotOf 9 = .ok (.bipush 10, 2) := by decide +kernel
theorem dX6_slotOf_11 : decode cX6_slotOf 11 = .ok (.iushr, 1) := by decide +kernel
theorem dX6_slotOf_12 : decode cX6_slotOf 12 = .ok (.iload_n 2, 1) := by decide +kernel
theorem dX6_slotOf_13 : decode cX6_slotOf 13 = .ok (.bipush 20, 2) := by decide +kernel
theorem dX6_slotOf_15 : decode cX6_slotOf 15 = .ok (.iushr, 1) := by decide +kernel
theorem dX6_slotOf_16 : decode cX6_slotOf 16 = .ok (.ixor, 1) := by decide +kernel
theorem dX6_slotOf_17 : decode cX6_slotOf 17 = .ok (.ixor, 1) := by decide +kernel
theorem dX6_slotOf_18 : decode cX6_slotOf 18 = .ok (.istore_n 2, 1) := by decide +kernel
theorem dX6_slotOf_19 : decode cX6_slotOf 19 = .ok (.iload_n 2, 1) := by decide +kernel
theorem dX6_slotOf_20 : decode cX6_slotOf 20 = .ok (.sipush 1023, 3) := by decide +kernel
theorem dX6_slotOf_23 : decode cX6_slotOf 23 = .ok (.iand, 1) := by decide +kernel
theorem dX6_slotOf_24 : decode cX6_slotOf 24 = .ok (.ireturn, 1) := by decide +kernel
theorem dX7_countUnlike_0 : decode cX7_countUnlike 0 = .ok (.aload_n 0, 1) := by decide +kernel
theorem dX7_countUnlike_1 : decode cX7_countUnlike 1 = .ok (.invokevirtual 47, 3) := by decide +kernel
theorem dX7_countUnlike_4 : decode cX7_countUnlike 4 = .ok (.istore_n 2, 1) := by decide +kernel
theorem dX7_countUnlike_5 : decode cX7_countUnlike 5 = .ok (.iconst 0, 1) := by decide +kernel
theorem dX7_countUnlike_6 : decode cX7_countUnlike 6 = .ok (.istore_n 3, 1) := by decide +kernel
theorem dX7_countUnlike_7 : decode cX7_countUnlike 7 = .ok (.iconst 0, 1) := by decide +kernel
theorem dX7_countUnlike_8 : decode cX7_countUnlike 8 = .ok (.istore 4, 2) := by decide +kernel
theorem dX7_countUnlike_10 : decode cX7_countUnlike 10 = .ok (.iload 4, 2) := by decide +kernel
theorem dX7_countUnlike_12 : decode cX7_countUnlike 12 = .ok (.iload_n 1, 1) := by decide +kernel
theorem dX7_countUnlike_13 : decode cX7_countUnlike 13 = .ok (.iadd, 1) := by decide +kernel
theorem dX7_countUnlike_14 : decode cX7_countUnlike 14 = .ok (.iload_n 2, 1) := by decide +kernel
theorem dX7_countUnlike_15 : decode cX7_countUnlike 15 = .ok (.if_icmp .gt 48, 3) := by decide +kernel
theorem dX7_countUnlike_18 : decode cX7_countUnlike 18 = .ok (.aload_n 0, 1) := by decide +kernel
theorem dX7_countUnlike_19 : decode cX7_countUnlike 19 = .ok (.iload 4, 2) := by decide +kernel
theorem dX7_countUnlike_21 : decode cX7_countUnlike 21 = .ok (.iload_n 1, 1) := by decide +kernel
theorem dX7_countUnlike_22 : decode cX7_countUnlike 22 = .ok (.invokevirtual 51, 3) := by decide +kernel
theorem dX7_countUnlike_25 : decode cX7_countUnlike 25 = .ok (.istore 5, 2) := by decide +kernel
theorem dX7_countUnlike_27 : decode cX7_countUnlike 27 = .ok (.aload_n 0, 1) := by decide +kernel
theorem dX7_countUnlike_28 : decode cX7_countUnlike 28 = .ok (.iload 5, 2) := by decide +kernel
theorem dX7_countUnlike_30 : decode cX7_countUnlike 30 = .ok (.iload_n 3, 1) := by decide +kernel
theorem dX7_countUnlike_31 : decode cX7_countUnlike 31 = .ok (.invokevirtual 54, 3) := by decide +kernel
theorem dX7_countUnlike_34 : decode cX7_countUnlike 34 = .ok (.ifCond .ne 23, 3) := by decide +kernel
theorem dX7_countUnlike_37 : decode cX7_countUnlike 37 = .ok (.iload_n 3, 1) := by decide +kernel
theorem dX7_countUnlike_38 : decode cX7_countUnlike 38 = .ok (.aload_n 0, 1) := by decide +kernel
theorem dX7_countUnlike_39 : decode cX7_countUnlike 39 = .ok (.getfield 21, 3) := by decide +kernel
theorem dX7_countUnlike_42 : decode cX7_countUnlike 42 = .ok (.arraylength, 1) := by decide +kernel
theorem dX7_countUnlike_43 : decode cX7_countUnlike 43 = .ok (.if_icmp .ge 14, 3) := by decide +kernel
theorem dX7_countUnlike_46 : decode cX7_countUnlike 46 = .ok (.aload_n 0, 1) := by decide +kernel
theorem dX7_countUnlike_47 : decode cX7_countUnlike 47 = .ok (.getfield 21, 3) := by decide +kernel
theorem dX7_countUnlike_50 : decode cX7_countUnlike 50 = .ok (.iload_n 3, 1) := by decide +kernel
theorem dX7_countUnlike_51 : decode cX7_countUnlike 51 = .ok (.iload 5, 2) := by decide +kernel
theorem dX7_countUnlike_53 : decode cX7_countUnlike 53 = .ok (.iastore, 1) := by decide +kernel
theorem dX7_countUnlike_54 : decode cX7_countUnlike 54 = .ok (.iinc 3 1, 3) := by decide +kernel
theorem dX7_countUnlike_57 : decode cX7_countUnlike 57 = .ok (.iinc 4 1, 3) := by decide +kernel
theorem dX7_countUnlike_60 : decode cX7_countUnlike 60 = .ok (.goto (-50), 3) := by decide +kernel
theorem dX7_countUnlike_63 : decode cX7_countUnlike 63 = .ok (.iload_n 3, 1) := by decide +kernel
theorem dX7_countUnlike_64 : decode cX7_countUnlike 64 = .ok (.ireturn, 1) := by decide +kernel
theorem dX7_grow_0 : decode cX7_grow 0 = .ok (.aload_n 0, 1) := by decide +kernel
theorem dX7_grow_1 : decode cX7_grow 1 = .ok (.getfield 18, 3) := by decide +kernel
theorem dX7_grow_4 : decode cX7_grow 4 = .ok (.iconst 0, 1) := by decide +kernel
theorem dX7_grow_5 : decode cX7_grow 5 = .ok (.invokestatic 34, 3) := by decide +kernel
theorem dX7_grow_8 : decode cX7_grow 8 = .ok (.iconst 1, 1) := by decide +kernel
theorem dX7_grow_9 : decode cX7_grow 9 = .ok (.istore_n 1, 1) := by decide +kernel
theorem dX7_grow_10 : decode cX7_grow 10 = .ok (.iconst 0, 1) := by decide +kernel
theorem dX7_grow_11 : decode cX7_grow 11 = .ok (.istore_n 2, 1) := by decide +kernel
theorem dX7_grow_12 : decode cX7_grow 12 = .ok (.iload_n 2, 1) := by decide +kernel
theorem dX7_grow_13 : decode cX7_grow 13 = .ok (.bipush 12, 2) := by decide +kernel
theorem dX7_grow_15 : decode cX7_grow 15 = .ok (.if_icmp .ge 101, 3) := by decide +kernel
theorem dX7_grow_18 : decode cX7_grow 18 = .ok (.iload_n 1, 1) := by decide +kernel
theorem dX7_grow_19 : decode cX7_grow 19 = .ok (.sipush 200, 3) := by decide +kernel
theorem dX7_grow_22 : decode cX7_grow 22 = .ok (.if_icmp .ge 94, 3) := by decide +kernel
theorem dX7_grow_25 : decode cX7_grow 25 = .ok (.iconst 0, 1) := by decide +kernel
theorem dX7_grow_26 : decode cX7_grow 26 = .ok (.istore_n 3, 1) := by decide +kernel
theorem dX7_grow_27 : decode cX7_grow 27 = .ok (.iconst 0, 1) := by decide +kernel
theorem dX7_grow_28 : decode cX7_grow 28 = .ok (.istore 4, 2) := by decide +kernel
theorem dX7_grow_30 : decode cX7_grow 30 = .ok (.iload 4, 2) := by decide +kernel
theorem dX7_grow_32 : decode cX7_grow 32 = .ok (.iload_n 1, 1) := by decide +kernel
theorem dX7_grow_33 : decode cX7_grow 33 = .ok (.if_icmp .ge 32, 3) := by decide +kernel
theorem dX7_grow_36 : decode cX7_grow 36 = .ok (.iload 4, 2) := by decide +kernel
theorem dX7_grow_38 : decode cX7_grow 38 = .ok (.aload_n 0, 1) := by decide +kernel
theorem dX7_grow_39 : decode cX7_grow 39 = .ok (.getfield 18, 3) := by decide +kernel
theorem dX7_grow_42 : decode cX7_grow 42 = .ok (.arraylength, 1) := by decide +kernel
theorem dX7_grow_43 : decode cX7_grow 43 = .ok (.if_icmp .ge 22, 3) := by decide +kernel
theorem dX7_grow_46 : decode cX7_grow 46 = .ok (.aload_n 0, 1) := by decide +kernel
theorem dX7_grow_47 : decode cX7_grow 47 = .ok (.aload_n 0, 1) := by decide +kernel
theorem dX7_grow_48 : decode cX7_grow 48 = .ok (.getfield 18, 3) := by decide +kernel
theorem dX7_grow_51 : decode cX7_grow 51 = .ok (.iload 4, 2) := by decide +kernel
theorem dX7_grow_53 : decode cX7_grow 53 = .ok (.iaload, 1) := by decide +kernel
theorem dX7_grow_54 : decode cX7_grow 54 = .ok (.iload_n 3, 1) := by decide +kernel
theorem dX7_grow_55 : decode cX7_grow 55 = .ok (.invokevirtual 40, 3) := by decide +kernel
theorem dX7_grow_58 : decode cX7_grow 58 = .ok (.istore_n 3, 1) := by decide +kernel
theorem dX7_grow_59 : decode cX7_grow 59 = .ok (.iinc 4 1, 3) := by decide +kernel
theorem dX7_grow_62 : decode cX7_grow 62 = .ok (.goto (-32), 3) := by decide +kernel
theorem dX7_grow_65 : decode cX7_grow 65 = .ok (.iconst 0, 1) := by decide +kernel
theorem dX7_grow_66 : decode cX7_grow 66 = .ok (.istore 4, 2) := by decide +kernel
theorem dX7_grow_68 : decode cX7_grow 68 = .ok (.iload 4, 2) := by decide +kernel
theorem dX7_grow_70 : decode cX7_grow 70 = .ok (.aload_n 0, 1) := by decide +kernel
theorem dX7_grow_71 : decode cX7_grow 71 = .ok (.getfield 18, 3) := by decide +kernel
theorem dX7_grow_74 : decode cX7_grow 74 = .ok (.arraylength, 1) := by decide +kernel
theorem dX7_grow_75 : decode cX7_grow 75 = .ok (.if_icmp .ge 33, 3) := by decide +kernel
theorem dX7_grow_78 : decode cX7_grow 78 = .ok (.iload 4, 2) := by decide +kernel
theorem dX7_grow_80 : decode cX7_grow 80 = .ok (.aload_n 0, 1) := by decide +kernel
theorem dX7_grow_81 : decode cX7_grow 81 = .ok (.getfield 21, 3) := by decide +kernel
theorem dX7_grow_84 : decode cX7_grow 84 = .ok (.arraylength, 1) := by decide +kernel
theorem dX7_grow_85 : decode cX7_grow 85 = .ok (.if_icmp .ge 23, 3) := by decide +kernel
theorem dX7_grow_88 : decode cX7_grow 88 = .ok (.aload_n 0, 1) := by decide +kernel
theorem dX7_grow_89 : decode cX7_grow 89 = .ok (.getfield 18, 3) := by decide +kernel
theorem dX7_grow_92 : decode cX7_grow 92 = .ok (.iload 4, 2) := by decide +kernel
theorem dX7_grow_94 : decode cX7_grow 94 = .ok (.aload_n 0, 1) := by decide +kernel
theorem dX7_grow_95 : decode cX7_grow 95 = .ok (.getfield 21, 3) := by decide +kernel
theorem dX7_grow_98 : decode cX7_grow 98 = .ok (.iload 4, 2) := by decide +kernel
theorem dX7_grow_100 : decode cX7_grow 100 = .ok (.iaload, 1) := by decide +kernel
theorem dX7_grow_101 : decode cX7_grow 101 = .ok (.iastore, 1) := by decide +kernel
theorem dX7_grow_102 : decode cX7_grow 102 = .ok (.iinc 4 1, 3) := by decide +kernel
theorem dX7_grow_105 : decode cX7_grow 105 = .ok (.goto (-37), 3) := by decide +kernel
theorem dX7_grow_108 : decode cX7_grow 108 = .ok (.iload_n 3, 1) := by decide +kernel
theorem dX7_grow_109 : decode cX7_grow 109 = .ok (.istore_n 1, 1) := by decide +kernel
theorem dX7_grow_110 : decode cX7_grow 110 = .ok (.iinc 2 1, 3) := by decide +kernel
theorem dX7_grow_113 : decode cX7_grow 113 = .ok (.goto (-101), 3) := by decide +kernel
theorem dX7_grow_116 : decode cX7_grow 116 = .ok (.iload_n 1, 1) := by decide +kernel
theorem dX7_grow_117 : decode cX7_grow 117 = .ok (.ireturn, 1) := by decide +kernel
theorem dX7_init_0 : decode cX7_init 0 = .ok (.aload_n 0, 1) := by decide +kernel
theorem dX7_init_1 : decode cX7_init 1 = .ok (.invokespecial 3, 3) := by decide +kernel
theorem dX7_init_4 : decode cX7_init 4 = .ok (.aload_n 0, 1) := by decide +kernel
theorem dX7_init_5 : decode cX7_init 5 = .ok (.iconst 3, 1) := by decide +kernel
theorem dX7_init_6 : decode cX7_init 6 = .ok (.newarray .int, 2) := by decide +kernel
theorem dX7_init_8 : decode cX7_init 8 = .ok (.putfield 9, 3) := by decide +kernel
theorem dX7_init_11 : decode cX7_init 11 = .ok (.aload_n 0, 1) := by decide +kernel
theorem dX7_init_12 : decode cX7_init 12 = .ok (.bipush 12, 2) := by decide +kernel
theorem dX7_init_14 : decode cX7_init 14 = .ok (.newarray .int, 2) := by decide +kernel
theorem dX7_init_16 : decode cX7_init 16 = .ok (.putfield 15, 3) := by decide +kernel
theorem dX7_init_19 : decode cX7_init 19 = .ok (.aload_n 0, 1) := by decide +kernel
theorem dX7_init_20 : decode cX7_init 20 = .ok (.sipush 200, 3) := by decide +kernel
theorem dX7_init_23 : decode cX7_init 23 = .ok (.newarray .int, 2) := by decide +kernel
theorem dX7_init_25 : decode cX7_init 25 = .ok (.putfield 18, 3) := by decide +kernel
theorem dX7_init_28 : decode cX7_init 28 = .ok (.aload_n 0, 1) := by decide +kernel
theorem dX7_init_29 : decode cX7_init 29 = .ok (.sipush 200, 3) := by decide +kernel
theorem dX7_init_32 : decode cX7_init 32 = .ok (.newarray .int, 2) := by decide +kernel
theorem dX7_init_34 : decode cX7_init 34 = .ok (.putfield 21, 3) := by decide +kernel
theorem dX7_init_37 : decode cX7_init 37 = .ok (.iconst 0, 1) := by decide +kernel
theorem dX7_init_38 : decode cX7_init 38 = .ok (.istore_n 1, 1) := by decide +kernel
theorem dX7_init_39 : decode cX7_init 39 = .ok (.iload_n 1, 1) := by decide +kernel
theorem dX7_init_40 : decode cX7_init 40 = .ok (.aload_n 0, 1) := by decide +kernel
theorem dX7_init_41 : decode cX7_init 41 = .ok (.getfield 9, 3) := by decide +kernel
theorem dX7_init_44 : decode cX7_init 44 = .ok (.arraylength, 1) := by decide +kernel
theorem dX7_init_45 : decode cX7_init 45 = .ok (.if_icmp .ge 36, 3) := by decide +kernel
theorem dX7_init_48 : decode cX7_init 48 = .ok (.aload_n 0, 1) := by decide +kernel
theorem dX7_init_49 : decode cX7_init 49 = .ok (.getfield 9, 3) := by decide +kernel
theorem dX7_init_52 : decode cX7_init 52 = .ok (.iload_n 1, 1) := by decide +kernel
theorem dX7_init_53 : decode cX7_init 53 = .ok (.iconst 1, 1) := by decide +kernel
theorem dX7_init_54 : decode cX7_init 54 = .ok (.iastore, 1) := by decide +kernel
theorem dX7_init_55 : decode cX7_init 55 = .ok (.iconst 4, 1) := by decide +kernel
theorem dX7_init_56 : decode cX7_init 56 = .ok (.iload_n 1, 1) := by decide +kernel
theorem dX7_init_57 : decode cX7_init 57 = .ok (.imul, 1) := by decide +kernel
theorem dX7_init_58 : decode cX7_init 58 = .ok (.istore_n 2, 1) := by decide +kernel
theorem dX7_init_59 : decode cX7_init 59 = .ok (.iload_n 2, 1) := by decide +kernel
theorem dX7_init_60 : decode cX7_init 60 = .ok (.aload_n 0, 1) := by decide +kernel
theorem dX7_init_61 : decode cX7_init 61 = .ok (.getfield 15, 3) := by decide +kernel
theorem dX7_init_64 : decode cX7_init 64 = .ok (.arraylength, 1) := by decide +kernel
theorem dX7_init_65 : decode cX7_init 65 = .ok (.if_icmp .ge 10, 3) := by decide +kernel
theorem dX7_init_68 : decode cX7_init 68 = .ok (.aload_n 0, 1) := by decide +kernel
theorem dX7_init_69 : decode cX7_init 69 = .ok (.getfield 15, 3) := by decide +kernel
theorem dX7_init_72 : decode cX7_init 72 = .ok (.iload_n 2, 1) := by decide +kernel
theorem dX7_init_73 : decode cX7_init 73 = .ok (.iload_n 1, 1) := by decide +kernel
theorem dX7_init_74 : decode cX7_init 74 = .ok (.iastore, 1) := by decide +kernel
theorem dX7_init_75 : decode cX7_init 75 = .ok (.iinc 1 1, 3) := by decide +kernel
theorem dX7_init_78 : decode cX7_init 78 = .ok (.goto (-39), 3) := by decide +kernel
theorem dX7_init_81 : decode cX7_init 81 = .ok (.return_, 1) := by decide +kernel
theorem dX7_isFound_0 : decode cX7_isFound 0 = .ok (.iconst 0, 1) := by decide +kernel
theorem dX7_isFound_1 : decode cX7_isFound 1 = .ok (.istore_n 3, 1) := by decide +kernel
theorem dX7_isFound_2 : decode cX7_isFound 2 = .ok (.iload_n 3, 1) := by decide +kernel
theorem dX7_isFound_3 : decode cX7_isFound 3 = .ok (.iload_n 2, 1) := by decide +kernel
theorem dX7_isFound_4 : decode cX7_isFound 4 = .ok (.if_icmp .ge 30, 3) := by decide +kernel
theorem dX7_isFound_7 : decode cX7_isFound 7 = .ok (.iload_n 3, 1) := by decide +kernel
theorem dX7_isFound_8 : decode cX7_isFound 8 = .ok (.aload_n 0, 1) := by decide +kernel
theorem dX7_isFound_9 : decode cX7_isFound 9 = .ok (.getfield 21, 3) := by decide +kernel
theorem dX7_isFound_12 : decode cX7_isFound 12 = .ok (.arraylength, 1) := by decide +kernel
theorem dX7_isFound_13 : decode cX7_isFound 13 = .ok (.if_icmp .ge 21, 3) := by decide +kernel
theorem dX7_isFound_16 : decode cX7_isFound 16 = .ok (.aload_n 0, 1) := by decide +kernel
theorem dX7_isFound_17 : decode cX7_isFound 17 = .ok (.getfield 21, 3) := by decide +kernel
theorem dX7_isFound_20 : decode cX7_isFound 20 = .ok (.iload_n 3, 1) := by decide +kernel
theorem dX7_isFound_21 : decode cX7_isFound 21 = .ok (.iaload, 1) := by decide +kernel
theorem dX7_isFound_22 : decode cX7_isFound 22 = .ok (.iload_n 1, 1) := by decide +kernel
theorem dX7_isFound_23 : decode cX7_isFound 23 = .ok (.if_icmp .ne 5, 3) := by decide +kernel
theorem dX7_isFound_26 : decode cX7_isFound 26 = .ok (.iconst 1, 1) := by decide +kernel
theorem dX7_isFound_27 : decode cX7_isFound 27 = .ok (.ireturn, 1) := by decide +kernel
theorem dX7_isFound_28 : decode cX7_isFound 28 = .ok (.iinc 3 1, 3) := by decide +kernel
theorem dX7_isFound_31 : decode cX7_isFound 31 = .ok (.goto (-29), 3) := by decide +kernel
theorem dX7_isFound_34 : decode cX7_isFound 34 = .ok (.iconst 0, 1) := by decide +kernel
theorem dX7_isFound_35 : decode cX7_isFound 35 = .ok (.ireturn, 1) := by decide +kernel
theorem dX7_learn_0 : decode cX7_learn 0 = .ok (.iconst 0, 1) := by decide +kernel
theorem dX7_learn_1 : decode cX7_learn 1 = .ok (.istore_n 3, 1) := by decide +kernel
theorem dX7_learn_2 : decode cX7_learn 2 = .ok (.iload_n 3, 1) := by decide +kernel
theorem dX7_learn_3 : decode cX7_learn 3 = .ok (.aload_n 2, 1) := by decide +kernel
theorem dX7_learn_4 : decode cX7_learn 4 = .ok (.getfield 24, 3) := by decide +kernel
theorem dX7_learn_7 : decode cX7_learn 7 = .ok (.if_icmp .ge 48, 3) := by decide +kernel
theorem dX7_learn_10 : decode cX7_learn 10 = .ok (.iload_n 3, 1) := by decide +kernel
theorem dX7_learn_11 : decode cX7_learn 11 = .ok (.iconst 4, 1) := by decide +kernel
theorem dX7_learn_12 : decode cX7_learn 12 = .ok (.if_icmp .ge 43, 3) := by decide +kernel
theorem dX7_learn_15 : decode cX7_learn 15 = .ok (.iconst 4, 1) := by decide +kernel
theorem dX7_learn_16 : decode cX7_learn 16 = .ok (.iload_n 1, 1) := by decide +kernel
theorem dX7_learn_17 : decode cX7_learn 17 = .ok (.imul, 1) := by decide +kernel
theorem dX7_learn_18 : decode cX7_learn 18 = .ok (.iload_n 3, 1) := by decide +kernel
theorem dX7_learn_19 : decode cX7_learn 19 = .ok (.iadd, 1) := by decide +kernel
theorem dX7_learn_20 : decode cX7_learn 20 = .ok (.istore 4, 2) := by decide +kernel
theorem dX7_learn_22 : decode cX7_learn 22 = .ok (.iload 4, 2) := by decide +kernel
theorem dX7_learn_24 : decode cX7_learn 24 = .ok (.ifCond .lt 25, 3) := by decide +kernel
theorem dX7_learn_27 : decode cX7_learn 27 = .ok (.iload 4, 2) := by decide +kernel
theorem dX7_learn_29 : decode cX7_learn 29 = .ok (.aload_n 0, 1) := by decide +kernel
theorem dX7_learn_30 : decode cX7_learn 30 = .ok (.getfield 15, 3) := by decide +kernel
theorem dX7_learn_33 : decode cX7_learn 33 = .ok (.arraylength, 1) := by decide +kernel
theorem dX7_learn_34 : decode cX7_learn 34 = .ok (.if_icmp .ge 15, 3) := by decide +kernel
theorem dX7_learn_37 : decode cX7_learn 37 = .ok (.aload_n 0, 1) := by decide +kernel
theorem dX7_learn_38 : decode cX7_learn 38 = .ok (.getfield 15, 3) := by decide +kernel
theorem dX7_learn_41 : decode cX7_learn 41 = .ok (.iload 4, 2) := by decide +kernel
theorem dX7_learn_43 : decode cX7_learn 43 = .ok (.aload_n 2, 1) := by decide +kernel
theorem dX7_learn_44 : decode cX7_learn 44 = .ok (.iload_n 3, 1) := by decide +kernel
theorem dX7_learn_45 : decode cX7_learn 45 = .ok (.invokevirtual 30, 3) := by decide +kernel
theorem dX7_learn_48 : decode cX7_learn 48 = .ok (.iastore, 1) := by decide +kernel
theorem dX7_learn_49 : decode cX7_learn 49 = .ok (.iinc 3 1, 3) := by decide +kernel
theorem dX7_learn_52 : decode cX7_learn 52 = .ok (.goto (-50), 3) := by decide +kernel
theorem dX7_learn_55 : decode cX7_learn 55 = .ok (.iload_n 1, 1) := by decide +kernel
theorem dX7_learn_56 : decode cX7_learn 56 = .ok (.ifCond .lt 22, 3) := by decide +kernel
theorem dX7_learn_59 : decode cX7_learn 59 = .ok (.iload_n 1, 1) := by decide +kernel
theorem dX7_learn_60 : decode cX7_learn 60 = .ok (.aload_n 0, 1) := by decide +kernel
theorem dX7_learn_61 : decode cX7_learn 61 = .ok (.getfield 9, 3) := by decide +kernel
theorem dX7_learn_64 : decode cX7_learn 64 = .ok (.arraylength, 1) := by decide +kernel
theorem dX7_learn_65 : decode cX7_learn 65 = .ok (.if_icmp .ge 13, 3) := by decide +kernel
theorem dX7_learn_68 : decode cX7_learn 68 = .ok (.aload_n 0, 1) := by decide +kernel
theorem dX7_learn_69 : decode cX7_learn 69 = .ok (.getfield 9, 3) := by decide +kernel
theorem dX7_learn_72 : decode cX7_learn 72 = .ok (.iload_n 1, 1) := by decide +kernel
theorem dX7_learn_73 : decode cX7_learn 73 = .ok (.aload_n 2, 1) := by decide +kernel
theorem dX7_learn_74 : decode cX7_learn 74 = .ok (.getfield 24, 3) := by decide +kernel
theorem dX7_learn_77 : decode cX7_learn 77 = .ok (.iastore, 1) := by decide +kernel
theorem dX7_learn_78 : decode cX7_learn 78 = .ok (.return_, 1) := by decide +kernel
theorem dX7_lengthOf_0 : decode cX7_lengthOf 0 = .ok (.iload_n 1, 1) := by decide +kernel
theorem dX7_lengthOf_1 : decode cX7_lengthOf 1 = .ok (.ifCond .lt 21, 3) := by decide +kernel
theorem dX7_lengthOf_4 : decode cX7_lengthOf 4 = .ok (.iload_n 1, 1) := by decide +kernel
theorem dX7_lengthOf_5 : decode cX7_lengthOf 5 = .ok (.aload_n 0, 1) := by decide +kernel
theorem dX7_lengthOf_6 : decode cX7_lengthOf 6 = .ok (.getfield 9, 3) := by decide +kernel
theorem dX7_lengthOf_9 : decode cX7_lengthOf 9 = .ok (.arraylength, 1) := by decide +kernel
theorem dX7_lengthOf_10 : decode cX7_lengthOf 10 = .ok (.if_icmp .ge 12, 3) := by decide +kernel
theorem dX7_lengthOf_13 : decode cX7_lengthOf 13 = .ok (.aload_n 0, 1) := by decide +kernel
theorem dX7_lengthOf_14 : decode cX7_lengthOf 14 = .ok (.getfield 9, 3) := by decide +kernel
theorem dX7_lengthOf_17 : decode cX7_lengthOf 17 = .ok (.iload_n 1, 1) := by decide +kernel
theorem dX7_lengthOf_18 : decode cX7_lengthOf 18 = .ok (.iaload, 1) := by decide +kernel
theorem dX7_lengthOf_19 : decode cX7_lengthOf 19 = .ok (.goto 4, 3) := by decide +kernel
theorem dX7_lengthOf_22 : decode cX7_lengthOf 22 = .ok (.iconst 0, 1) := by decide +kernel
theorem dX7_lengthOf_23 : decode cX7_lengthOf 23 = .ok (.ireturn, 1) := by decide +kernel
theorem dX7_replace_0 : decode cX7_replace 0 = .ok (.iload_n 2, 1) := by decide +kernel
theorem dX7_replace_1 : decode cX7_replace 1 = .ok (.istore_n 3, 1) := by decide +kernel
theorem dX7_replace_2 : decode cX7_replace 2 = .ok (.iconst 0, 1) := by decide +kernel
theorem dX7_replace_3 : decode cX7_replace 3 = .ok (.istore 4, 2) := by decide +kernel
theorem dX7_replace_5 : decode cX7_replace 5 = .ok (.iload 4, 2) := by decide +kernel
theorem dX7_replace_7 : decode cX7_replace 7 = .ok (.aload_n 0, 1) := by decide +kernel
theorem dX7_replace_8 : decode cX7_replace 8 = .ok (.iload_n 1, 1) := by decide +kernel
theorem dX7_replace_9 : decode cX7_replace 9 = .ok (.invokevirtual 44, 3) := by decide +kernel
theorem dX7_replace_12 : decode cX7_replace 12 = .ok (.if_icmp .ge 61, 3) := by decide +kernel
theorem dX7_replace_15 : decode cX7_replace 15 = .ok (.iconst 4, 1) := by decide +kernel
theorem dX7_replace_16 : decode cX7_replace 16 = .ok (.iload_n 1, 1) := by decide +kernel
theorem dX7_replace_17 : decode cX7_replace 17 = .ok (.imul, 1) := by decide +kernel
theorem dX7_replace_18 : decode cX7_replace 18 = .ok (.iload 4, 2) := by decide +kernel
theorem dX7_replace_20 : decode cX7_replace 20 = .ok (.iadd, 1) := by decide +kernel
theorem dX7_replace_21 : decode cX7_replace 21 = .ok (.istore 5, 2) := by decide +kernel
theorem dX7_replace_23 : decode cX7_replace 23 = .ok (.iload_n 3, 1) := by decide +kernel
theorem dX7_replace_24 : decode cX7_replace 24 = .ok (.ifCond .lt 43, 3) := by decide +kernel
theorem dX7_replace_27 : decode cX7_replace 27 = .ok (.iload_n 3, 1) := by decide +kernel
theorem dX7_replace_28 : decode cX7_replace 28 = .ok (.aload_n 0, 1) := by decide +kernel
theorem dX7_replace_29 : decode cX7_replace 29 = .ok (.getfield 21, 3) := by decide +kernel
theorem dX7_replace_32 : decode cX7_replace 32 = .ok (.arraylength, 1) := by decide +kernel
theorem dX7_replace_33 : decode cX7_replace 33 = .ok (.if_icmp .ge 34, 3) := by decide +kernel
theorem dX7_replace_36 : decode cX7_replace 36 = .ok (.iload 5, 2) := by decide +kernel
theorem dX7_replace_38 : decode cX7_replace 38 = .ok (.ifCond .lt 29, 3) := by decide +kernel
theorem dX7_replace_41 : decode cX7_replace 41 = .ok (.iload 5, 2) := by decide +kernel
theorem dX7_replace_43 : decode cX7_replace 43 = .ok (.aload_n 0, 1) := by decide +kernel
theorem dX7_replace_44 : decode cX7_replace 44 = .ok (.getfield 15, 3) := by decide +kernel
theorem dX7_replace_47 : decode cX7_replace 47 = .ok (.arraylength, 1) := by decide +kernel
theorem dX7_replace_48 : decode cX7_replace 48 = .ok (.if_icmp .ge 19, 3) := by decide +kernel
theorem dX7_replace_51 : decode cX7_replace 51 = .ok (.aload_n 0, 1) := by decide +kernel
theorem dX7_replace_52 : decode cX7_replace 52 = .ok (.getfield 21, 3) := by decide +kernel
theorem dX7_replace_55 : decode cX7_replace 55 = .ok (.iload_n 3, 1) := by decide +kernel
theorem dX7_replace_56 : decode cX7_replace 56 = .ok (.aload_n 0, 1) := by decide +kernel
theorem dX7_replace_57 : decode cX7_replace 57 = .ok (.getfield 15, 3) := by decide +kernel
theorem dX7_replace_60 : decode cX7_replace 60 = .ok (.iload 5, 2) := by decide +kernel
theorem dX7_replace_62 : decode cX7_replace 62 = .ok (.iaload, 1) := by decide +kernel
theorem dX7_replace_63 : decode cX7_replace 63 = .ok (.iastore, 1) := by decide +kernel
theorem dX7_replace_64 : decode cX7_replace 64 = .ok (.iinc 3 1, 3) := by decide +kernel
theorem dX7_replace_67 : decode cX7_replace 67 = .ok (.iinc 4 1, 3) := by decide +kernel
theorem dX7_replace_70 : decode cX7_replace 70 = .ok (.goto (-65), 3) := by decide +kernel
theorem dX7_replace_73 : decode cX7_replace 73 = .ok (.iload_n 3, 1) := by decide +kernel
theorem dX7_replace_74 : decode cX7_replace 74 = .ok (.ireturn, 1) := by decide +kernel
theorem dX7_wordAt_0 : decode cX7_wordAt 0 = .ok (.iconst 0, 1) := by decide +kernel
theorem dX7_wordAt_1 : decode cX7_wordAt 1 = .ok (.istore_n 3, 1) := by decide +kernel
theorem dX7_wordAt_2 : decode cX7_wordAt 2 = .ok (.iload_n 1, 1) := by decide +kernel
theorem dX7_wordAt_3 : decode cX7_wordAt 3 = .ok (.istore 4, 2) := by decide +kernel
theorem dX7_wordAt_5 : decode cX7_wordAt 5 = .ok (.iload 4, 2) := by decide +kernel
theorem dX7_wordAt_7 : decode cX7_wordAt 7 = .ok (.iload_n 1, 1) := by decide +kernel
theorem dX7_wordAt_8 : decode cX7_wordAt 8 = .ok (.iload_n 2, 1) := by decide +kernel
theorem dX7_wordAt_9 : decode cX7_wordAt 9 = .ok (.iadd, 1) := by decide +kernel
theorem dX7_wordAt_10 : decode cX7_wordAt 10 = .ok (.if_icmp .ge 40, 3) := by decide +kernel
theorem dX7_wordAt_13 : decode cX7_wordAt 13 = .ok (.iconst 3, 1) := by decide +kernel
theorem dX7_wordAt_14 : decode cX7_wordAt 14 = .ok (.iload_n 3, 1) := by decide +kernel
theorem dX7_wordAt_15 : decode cX7_wordAt 15 = .ok (.imul, 1) := by decide +kernel
theorem dX7_wordAt_16 : decode cX7_wordAt 16 = .ok (.iload 4, 2) := by decide +kernel
theorem dX7_wordAt_18 : decode cX7_wordAt 18 = .ok (.ifCond .lt 23, 3) := by decide +kernel
theorem dX7_wordAt_21 : decode cX7_wordAt 21 = .ok (.iload 4, 2) := by decide +kernel
theorem dX7_wordAt_23 : decode cX7_wordAt 23 = .ok (.aload_n 0, 1) := by decide +kernel
theorem dX7_wordAt_24 : decode cX7_wordAt 24 = .ok (.getfield 18, 3) := by decide +kernel
theorem dX7_wordAt_27 : decode cX7_wordAt 27 = .ok (.arraylength, 1) := by decide +kernel
theorem dX7_wordAt_28 : decode cX7_wordAt 28 = .ok (.if_icmp .ge 13, 3) := by decide +kernel
theorem dX7_wordAt_31 : decode cX7_wordAt 31 = .ok (.aload_n 0, 1) := by decide +kernel
theorem dX7_wordAt_32 : decode cX7_wordAt 32 = .ok (.getfield 18, 3) := by decide +kernel
theorem dX7_wordAt_35 : decode cX7_wordAt 35 = .ok (.iload 4, 2) := by decide +kernel
theorem dX7_wordAt_37 : decode cX7_wordAt 37 = .ok (.iaload, 1) := by decide +kernel
theorem dX7_wordAt_38 : decode cX7_wordAt 38 = .ok (.goto 4, 3) := by decide +kernel
theorem dX7_wordAt_41 : decode cX7_wordAt 41 = .ok (.iconst 0, 1) := by decide +kernel
theorem dX7_wordAt_42 : decode cX7_wordAt 42 = .ok (.iadd, 1) := by decide +kernel
theorem dX7_wordAt_43 : decode cX7_wordAt 43 = .ok (.istore_n 3, 1) := by decide +kernel
theorem dX7_wordAt_44 : decode cX7_wordAt 44 = .ok (.iinc 4 1, 3) := by decide +kernel
theorem dX7_wordAt_47 : decode cX7_wordAt 47 = .ok (.goto (-42), 3) := by decide +kernel
theorem dX7_wordAt_50 : decode cX7_wordAt 50 = .ok (.iload_n 3, 1) := by decide +kernel
theorem dX7_wordAt_51 : decode cX7_wordAt 51 = .ok (.ireturn, 1) := by decide +kernel
theorem dX8_at_0 : decode cX8_at 0 = .ok (.aload_n 0, 1) := by decide +kernel
theorem dX8_at_1 : decode cX8_at 1 = .ok (.iload_n 1, 1) := by decide +kernel
theorem dX8_at_2 : decode cX8_at 2 = .ok (.iload_n 2, 1) := by decide +kernel
theorem dX8_at_3 : decode cX8_at 3 = .ok (.invokevirtual 28, 3) := by decide +kernel
theorem dX8_at_6 : decode cX8_at 6 = .ok (.istore_n 3, 1) := by decide +kernel
theorem dX8_at_7 : decode cX8_at 7 = .ok (.iload_n 3, 1) := by decide +kernel
theorem dX8_at_8 : decode cX8_at 8 = .ok (.ifCond .lt 21, 3) := by decide +kernel
theorem dX8_at_11 : decode cX8_at 11 = .ok (.iload_n 3, 1) := by decide +kernel
theorem dX8_at_12 : decode cX8_at 12 = .ok (.aload_n 0, 1) := by decide +kernel
theorem dX8_at_13 : decode cX8_at 13 = .ok (.getfield 11, 3) := by decide +kernel
theorem dX8_at_16 : decode cX8_at 16 = .ok (.arraylength, 1) := by decide +kernel
theorem dX8_at_17 : decode cX8_at 17 = .ok (.if_icmp .ge 12, 3) := by decide +kernel
theorem dX8_at_20 : decode cX8_at 20 = .ok (.aload_n 0, 1) := by decide +kernel
theorem dX8_at_21 : decode cX8_at 21 = .ok (.getfield 11, 3) := by decide +kernel
theorem dX8_at_24 : decode cX8_at 24 = .ok (.iload_n 3, 1) := by decide +kernel
theorem dX8_at_25 : decode cX8_at 25 = .ok (.laload, 1) := by decide +kernel
theorem dX8_at_26 : decode cX8_at 26 = .ok (.goto 4, 3) := by decide +kernel
theorem dX8_at_29 : decode cX8_at 29 = .ok (.lconst 0, 1) := by decide +kernel
theorem dX8_at_30 : decode cX8_at 30 = .ok (.lreturn, 1) := by decide +kernel
theorem dX8_copyFrom_0 : decode cX8_copyFrom 0 = .ok (.aload_n 0, 1) := by decide +kernel
theorem dX8_copyFrom_1 : decode cX8_copyFrom 1 = .ok (.aload_n 1, 1) := by decide +kernel
theorem dX8_copyFrom_2 : decode cX8_copyFrom 2 = .ok (.getfield 15, 3) := by decide +kernel
theorem dX8_copyFrom_5 : decode cX8_copyFrom 5 = .ok (.aload_n 1, 1) := by decide +kernel
theorem dX8_copyFrom_6 : decode cX8_copyFrom 6 = .ok (.getfield 19, 3) := by decide +kernel
theorem dX8_copyFrom_9 : decode cX8_copyFrom 9 = .ok (.invokevirtual 42, 3) := by decide +kernel
theorem dX8_copyFrom_12 : decode cX8_copyFrom 12 = .ok (.iconst 0, 1) := by decide +kernel
theorem dX8_copyFrom_13 : decode cX8_copyFrom 13 = .ok (.istore_n 2, 1) := by decide +kernel
theorem dX8_copyFrom_14 : decode cX8_copyFrom 14 = .ok (.iload_n 2, 1) := by decide +kernel
theorem dX8_copyFrom_15 : decode cX8_copyFrom 15 = .ok (.aload_n 0, 1) := by decide +kernel
theorem dX8_copyFrom_16 : decode cX8_copyFrom 16 = .ok (.getfield 15, 3) := by decide +kernel
theorem dX8_copyFrom_19 : decode cX8_copyFrom 19 = .ok (.if_icmp .ge 37, 3) := by decide +kernel
theorem dX8_copyFrom_22 : decode cX8_copyFrom 22 = .ok (.iconst 0, 1) := by decide +kernel
theorem dX8_copyFrom_23 : decode cX8_copyFrom 23 = .ok (.istore_n 3, 1) := by decide +kernel
theorem dX8_copyFrom_24 : decode cX8_copyFrom 24 = .ok (.iload_n 3, 1) := by decide +kernel
theorem dX8_copyFrom_25 : decode cX8_copyFrom 25 = .ok (.aload_n 0, 1) := by decide +kernel
theorem dX8_copyFrom_26 : decode cX8_copyFrom 26 = .ok (.getfield 19, 3) := by decide +kernel
theorem dX8_copyFrom_29 : decode cX8_copyFrom 29 = .ok (.if_icmp .ge 21, 3) := by decide +kernel
theorem dX8_copyFrom_32 : decode cX8_copyFrom 32 = .ok (.aload_n 0, 1) := by decide +kernel
theorem dX8_copyFrom_33 : decode cX8_copyFrom 33 = .ok (.iload_n 2, 1) := by decide +kernel
theorem dX8_copyFrom_34 : decode cX8_copyFrom 34 = .ok (.iload_n 3, 1) := by decide +kernel
theorem dX8_copyFrom_35 : decode cX8_copyFrom 35 = .ok (.aload_n 1, 1) := by decide +kernel
theorem dX8_copyFrom_36 : decode cX8_copyFrom 36 = .ok (.iload_n 2, 1) := by decide +kernel
theorem dX8_copyFrom_37 : decode cX8_copyFrom 37 = .ok (.iload_n 3, 1) := by decide +kernel
theorem dX8_copyFrom_38 : decode cX8_copyFrom 38 = .ok (.invokevirtual 38, 3) := by decide +kernel
theorem dX8_copyFrom_41 : decode cX8_copyFrom 41 = .ok (.invokevirtual 46, 3) := by decide +kernel
theorem dX8_copyFrom_44 : decode cX8_copyFrom 44 = .ok (.iinc 3 1, 3) := by decide +kernel
theorem dX8_copyFrom_47 : decode cX8_copyFrom 47 = .ok (.goto (-23), 3) := by decide +kernel
theorem dX8_copyFrom_50 : decode cX8_copyFrom 50 = .ok (.iinc 2 1, 3) := by decide +kernel
theorem dX8_copyFrom_53 : decode cX8_copyFrom 53 = .ok (.goto (-39), 3) := by decide +kernel
theorem dX8_copyFrom_56 : decode cX8_copyFrom 56 = .ok (.return_, 1) := by decide +kernel
theorem dX8_diagonalSum_0 : decode cX8_diagonalSum 0 = .ok (.lconst 0, 1) := by decide +kernel
theorem dX8_diagonalSum_1 : decode cX8_diagonalSum 1 = .ok (.lstore_n 1, 1) := by decide +kernel
theorem dX8_diagonalSum_2 : decode cX8_diagonalSum 2 = .ok (.iconst 0, 1) := by decide +kernel
theorem dX8_diagonalSum_3 : decode cX8_diagonalSum 3 = .ok (.istore_n 3, 1) := by decide +kernel
theorem dX8_diagonalSum_4 : decode cX8_diagonalSum 4 = .ok (.iload_n 3, 1) := by decide +kernel
theorem dX8_diagonalSum_5 : decode cX8_diagonalSum 5 = .ok (.aload_n 0, 1) := by decide +kernel
theorem dX8_diagonalSum_6 : decode cX8_diagonalSum 6 = .ok (.getfield 15, 3) := by decide +kernel
theorem dX8_diagonalSum_9 : decode cX8_diagonalSum 9 = .ok (.if_icmp .ge 18, 3) := by decide +kernel
theorem dX8_diagonalSum_12 : decode cX8_diagonalSum 12 = .ok (.lload_n 1, 1) := by decide +kernel
theorem dX8_diagonalSum_13 : decode cX8_diagonalSum 13 = .ok (.aload_n 0, 1) := by decide +kernel
theorem dX8_diagonalSum_14 : decode cX8_diagonalSum 14 = .ok (.iload_n 3, 1) := by decide +kernel
theorem dX8_diagonalSum_15 : decode cX8_diagonalSum 15 = .ok (.iload_n 3, 1) := by decide +kernel
theorem dX8_diagonalSum_16 : decode cX8_diagonalSum 16 = .ok (.invokevirtual 38, 3) := by decide +kernel
theorem dX8_diagonalSum_19 : decode cX8_diagonalSum 19 = .ok (.ladd, 1) := by decide +kernel
theorem dX8_diagonalSum_20 : decode cX8_diagonalSum 20 = .ok (.lstore_n 1, 1) := by decide +kernel
theorem dX8_diagonalSum_21 : decode cX8_diagonalSum 21 = .ok (.iinc 3 1, 3) := by decide +kernel
theorem dX8_diagonalSum_24 : decode cX8_diagonalSum 24 = .ok (.goto (-20), 3) := by decide +kernel
theorem dX8_diagonalSum_27 : decode cX8_diagonalSum 27 = .ok (.lload_n 1, 1) := by decide +kernel
theorem dX8_diagonalSum_28 : decode cX8_diagonalSum 28 = .ok (.lreturn, 1) := by decide +kernel
theorem dX8_init_0 : decode cX8_init 0 = .ok (.aload_n 0, 1) := by decide +kernel
theorem dX8_init_1 : decode cX8_init 1 = .ok (.invokespecial 3, 3) := by decide +kernel
theorem dX8_init_4 : decode cX8_init 4 = .ok (.aload_n 0, 1) := by decide +kernel
theorem dX8_init_5 : decode cX8_init 5 = .ok (.sipush 144, 3) := by decide +kernel
theorem dX8_init_8 : decode cX8_init 8 = .ok (.newarray .long, 2) := by decide +kernel
theorem dX8_init_10 : decode cX8_init 10 = .ok (.putfield 11, 3) := by decide +kernel
theorem dX8_init_13 : decode cX8_init 13 = .ok (.return_, 1) := by decide +kernel
theorem dX8_isInBounds_0 : decode cX8_isInBounds 0 = .ok (.aload_n 0, 1) := by decide +kernel
theorem dX8_isInBounds_1 : decode cX8_isInBounds 1 = .ok (.getfield 15, 3) := by decide +kernel
theorem dX8_isInBounds_4 : decode cX8_isInBounds 4 = .ok (.iconst 1, 1) := by decide +kernel
theorem dX8_isInBounds_5 : decode cX8_isInBounds 5 = .ok (.if_icmp .lt 31, 3) := by decide +kernel
theorem dX8_isInBounds_8 : decode cX8_isInBounds 8 = .ok (.aload_n 0, 1) := by decide +kernel
theorem dX8_isInBounds_9 : decode cX8_isInBounds 9 = .ok (.getfield 15, 3) := by decide +kernel
theorem dX8_isInBounds_12 : decode cX8_isInBounds 12 = .ok (.iconst 5, 1) := by decide +kernel
theorem dX8_isInBounds_13 : decode cX8_isInBounds 13 = .ok (.if_icmp .gt 23, 3) := by decide +kernel
theorem dX8_isInBounds_16 : decode cX8_isInBounds 16 = .ok (.aload_n 0, 1) := by decide +kernel
theorem dX8_isInBounds_17 : decode cX8_isInBounds 17 = .ok (.getfield 19, 3) := by decide +kernel
theorem dX8_isInBounds_20 : decode cX8_isInBounds 20 = .ok (.iconst 1, 1) := by decide +kernel
theorem dX8_isInBounds_21 : decode cX8_isInBounds 21 = .ok (.if_icmp .lt 15, 3) := by decide +kernel
theorem dX8_isInBounds_24 : decode cX8_isInBounds 24 = .ok (.aload_n 0, 1) := by decide +kernel
theorem dX8_isInBounds_25 : decode cX8_isInBounds 25 = .ok (.getfield 19, 3) := by decide +kernel
theorem dX8_isInBounds_28 : decode cX8_isInBounds 28 = .ok (.iconst 5, 1) := by decide +kernel
theorem dX8_isInBounds_29 : decode cX8_isInBounds 29 = .ok (.if_icmp .gt 7, 3) := by decide +kernel
theorem dX8_isInBounds_32 : decode cX8_isInBounds 32 = .ok (.iconst 1, 1) := by decide +kernel
theorem dX8_isInBounds_33 : decode cX8_isInBounds 33 = .ok (.goto 4, 3) := by decide +kernel
theorem dX8_isInBounds_36 : decode cX8_isInBounds 36 = .ok (.iconst 0, 1) := by decide +kernel
theorem dX8_isInBounds_37 : decode cX8_isInBounds 37 = .ok (.istore_n 1, 1) := by decide +kernel
theorem dX8_isInBounds_38 : decode cX8_isInBounds 38 = .ok (.iconst 0, 1) := by decide +kernel
theorem dX8_isInBounds_39 : decode cX8_isInBounds 39 = .ok (.istore_n 2, 1) := by decide +kernel
theorem dX8_isInBounds_40 : decode cX8_isInBounds 40 = .ok (.iload_n 2, 1) := by decide +kernel
theorem dX8_isInBounds_41 : decode cX8_isInBounds 41 = .ok (.aload_n 0, 1) := by decide +kernel
theorem dX8_isInBounds_42 : decode cX8_isInBounds 42 = .ok (.getfield 11, 3) := by decide +kernel
theorem dX8_isInBounds_45 : decode cX8_isInBounds 45 = .ok (.arraylength, 1) := by decide +kernel
theorem dX8_isInBounds_46 : decode cX8_isInBounds 46 = .ok (.if_icmp .ge 43, 3) := by decide +kernel
theorem dX8_isInBounds_49 : decode cX8_isInBounds 49 = .ok (.iload_n 1, 1) := by decide +kernel
theorem dX8_isInBounds_50 : decode cX8_isInBounds 50 = .ok (.ifCond .eq 31, 3) := by decide +kernel
theorem dX8_isInBounds_53 : decode cX8_isInBounds 53 = .ok (.aload_n 0, 1) := by decide +kernel
theorem dX8_isInBounds_54 : decode cX8_isInBounds 54 = .ok (.getfield 11, 3) := by decide +kernel
theorem dX8_isInBounds_57 : decode cX8_isInBounds 57 = .ok (.iload_n 2, 1) := by decide +kernel
theorem dX8_isInBounds_58 : decode cX8_isInBounds 58 = .ok (.laload, 1) := by decide +kernel
theorem dX8_isInBounds_59 : decode cX8_isInBounds 59 = .ok (.lconst 0, 1) := by decide +kernel
theorem dX8_isInBounds_60 : decode cX8_isInBounds 60 = .ok (.lcmp, 1) := by decide +kernel
theorem dX8_isInBounds_61 : decode cX8_isInBounds 61 = .ok (.ifCond .lt 20, 3) := by decide +kernel
theorem dX8_isInBounds_64 : decode cX8_isInBounds 64 = .ok (.aload_n 0, 1) := by decide +kernel
theorem dX8_isInBounds_65 : decode cX8_isInBounds 65 = .ok (.getfield 11, 3) := by decide +kernel
theorem dX8_isInBounds_68 : decode cX8_isInBounds 68 = .ok (.iload_n 2, 1) := by decide +kernel
theorem dX8_isInBounds_69 : decode cX8_isInBounds 69 = .ok (.laload, 1) := by decide +kernel
theorem dX8_isInBounds_70 : decode cX8_isInBounds 70 = .ok (.ldc2_w 32, 3) := by decide +kernel
theorem dX8_isInBounds_73 : decode cX8_isInBounds 73 = .ok (.lcmp, 1) := by decide +kernel
theorem dX8_isInBounds_74 : decode cX8_isInBounds 74 = .ok (.ifCond .gt 7, 3) := by decide +kernel
theorem dX8_isInBounds_77 : decode cX8_isInBounds 77 = .ok (.iconst 1, 1) := by decide +kernel
theorem dX8_isInBounds_78 : decode cX8_isInBounds 78 = .ok (.goto 4, 3) := by decide +kernel
theorem dX8_isInBounds_81 : decode cX8_isInBounds 81 = .ok (.iconst 0, 1) := by decide +kernel
theorem dX8_isInBounds_82 : decode cX8_isInBounds 82 = .ok (.istore_n 1, 1) := by decide +kernel
theorem dX8_isInBounds_83 : decode cX8_isInBounds 83 = .ok (.iinc 2 1, 3) := by decide +kernel
theorem dX8_isInBounds_86 : decode cX8_isInBounds 86 = .ok (.goto (-46), 3) := by decide +kernel
theorem dX8_isInBounds_89 : decode cX8_isInBounds 89 = .ok (.iload_n 1, 1) := by decide +kernel
theorem dX8_isInBounds_90 : decode cX8_isInBounds 90 = .ok (.ireturn, 1) := by decide +kernel
theorem dX8_multiply_0 : decode cX8_multiply 0 = .ok (.aload_n 0, 1) := by decide +kernel
theorem dX8_multiply_1 : decode cX8_multiply 1 = .ok (.aload_n 1, 1) := by decide +kernel
theorem dX8_multiply_2 : decode cX8_multiply 2 = .ok (.getfield 15, 3) := by decide +kernel
theorem dX8_multiply_5 : decode cX8_multiply 5 = .ok (.aload_n 2, 1) := by decide +kernel
theorem dX8_multiply_6 : decode cX8_multiply 6 = .ok (.getfield 19, 3) := by decide +kernel
theorem dX8_multiply_9 : decode cX8_multiply 9 = .ok (.invokevirtual 42, 3) := by decide +kernel
theorem dX8_multiply_12 : decode cX8_multiply 12 = .ok (.iconst 0, 1) := by decide +kernel
theorem dX8_multiply_13 : decode cX8_multiply 13 = .ok (.istore_n 3, 1) := by decide +kernel
theorem dX8_multiply_14 : decode cX8_multiply 14 = .ok (.iload_n 3, 1) := by decide +kernel
theorem dX8_multiply_15 : decode cX8_multiply 15 = .ok (.aload_n 0, 1) := by decide +kernel
theorem dX8_multiply_16 : decode cX8_multiply 16 = .ok (.getfield 15, 3) := by decide +kernel
theorem dX8_multiply_19 : decode cX8_multiply 19 = .ok (.if_icmp .ge 78, 3) := by decide +kernel
theorem dX8_multiply_22 : decode cX8_multiply 22 = .ok (.iconst 0, 1) := by decide +kernel
theorem dX8_multiply_23 : decode cX8_multiply 23 = .ok (.istore 4, 2) := by decide +kernel
theorem dX8_multiply_25 : decode cX8_multiply 25 = .ok (.iload 4, 2) := by decide +kernel
theorem dX8_multiply_27 : decode cX8_multiply 27 = .ok (.aload_n 0, 1) := by decide +kernel
theorem dX8_multiply_28 : decode cX8_multiply 28 = .ok (.getfield 19, 3) := by decide +kernel
theorem dX8_multiply_31 : decode cX8_multiply 31 = .ok (.if_icmp .ge 60, 3) := by decide +kernel
theorem dX8_multiply_34 : decode cX8_multiply 34 = .ok (.lconst 0, 1) := by decide +kernel
theorem dX8_multiply_35 : decode cX8_multiply 35 = .ok (.lstore 5, 2) := by decide +kernel
theorem dX8_multiply_37 : decode cX8_multiply 37 = .ok (.iconst 0, 1) := by decide +kernel
theorem dX8_multiply_38 : decode cX8_multiply 38 = .ok (.istore 7, 2) := by decide +kernel
theorem dX8_multiply_40 : decode cX8_multiply 40 = .ok (.iload 7, 2) := by decide +kernel
theorem dX8_multiply_42 : decode cX8_multiply 42 = .ok (.aload_n 1, 1) := by decide +kernel
theorem dX8_multiply_43 : decode cX8_multiply 43 = .ok (.getfield 19, 3) := by decide +kernel
theorem dX8_multiply_46 : decode cX8_multiply 46 = .ok (.if_icmp .ge 30, 3) := by decide +kernel
theorem dX8_multiply_49 : decode cX8_multiply 49 = .ok (.lload 5, 2) := by decide +kernel
theorem dX8_multiply_51 : decode cX8_multiply 51 = .ok (.aload_n 1, 1) := by decide +kernel
theorem dX8_multiply_52 : decode cX8_multiply 52 = .ok (.iload_n 3, 1) := by decide +kernel
theorem dX8_multiply_53 : decode cX8_multiply 53 = .ok (.iload 7, 2) := by decide +kernel
theorem dX8_multiply_55 : decode cX8_multiply 55 = .ok (.invokevirtual 38, 3) := by decide +kernel
theorem dX8_multiply_58 : decode cX8_multiply 58 = .ok (.aload_n 2, 1) := by decide +kernel
theorem dX8_multiply_59 : decode cX8_multiply 59 = .ok (.iload 7, 2) := by decide +kernel
theorem dX8_multiply_61 : decode cX8_multiply 61 = .ok (.iload 4, 2) := by decide +kernel
theorem dX8_multiply_63 : decode cX8_multiply 63 = .ok (.invokevirtual 38, 3) := by decide +kernel
theorem dX8_multiply_66 : decode cX8_multiply 66 = .ok (.lmul, 1) := by decide +kernel
theorem dX8_multiply_67 : decode cX8_multiply 67 = .ok (.ladd, 1) := by decide +kernel
theorem dX8_multiply_68 : decode cX8_multiply 68 = .ok (.lstore 5, 2) := by decide +kernel
theorem dX8_multiply_70 : decode cX8_multiply 70 = .ok (.iinc 7 1, 3) := by decide +kernel
theorem dX8_multiply_73 : decode cX8_multiply 73 = .ok (.goto (-33), 3) := by decide +kernel
theorem dX8_multiply_76 : decode cX8_multiply 76 = .ok (.aload_n 0, 1) := by decide +kernel
theorem dX8_multiply_77 : decode cX8_multiply 77 = .ok (.iload_n 3, 1) := by decide +kernel
theorem dX8_multiply_78 : decode cX8_multiply 78 = .ok (.iload 4, 2) := by decide +kernel
theorem dX8_multiply_80 : decode cX8_multiply 80 = .ok (.lload 5, 2) := by decide +kernel
theorem dX8_multiply_82 : decode cX8_multiply 82 = .ok (.invokevirtual 46, 3) := by decide +kernel
theorem dX8_multiply_85 : decode cX8_multiply 85 = .ok (.iinc 4 1, 3) := by decide +kernel
theorem dX8_multiply_88 : decode cX8_multiply 88 = .ok (.goto (-63), 3) := by decide +kernel
theorem dX8_multiply_91 : decode cX8_multiply 91 = .ok (.iinc 3 1, 3) := by decide +kernel
theorem dX8_multiply_94 : decode cX8_multiply 94 = .ok (.goto (-80), 3) := by decide +kernel
theorem dX8_multiply_97 : decode cX8_multiply 97 = .ok (.return_, 1) := by decide +kernel
theorem dX8_placeOf_0 : decode cX8_placeOf 0 = .ok (.iload_n 1, 1) := by decide +kernel
theorem dX8_placeOf_1 : decode cX8_placeOf 1 = .ok (.ifCond .lt 33, 3) := by decide +kernel
theorem dX8_placeOf_4 : decode cX8_placeOf 4 = .ok (.iload_n 1, 1) := by decide +kernel
theorem dX8_placeOf_5 : decode cX8_placeOf 5 = .ok (.aload_n 0, 1) := by decide +kernel
theorem dX8_placeOf_6 : decode cX8_placeOf 6 = .ok (.getfield 15, 3) := by decide +kernel
theorem dX8_placeOf_9 : decode cX8_placeOf 9 = .ok (.if_icmp .ge 25, 3) := by decide +kernel
theorem dX8_placeOf_12 : decode cX8_placeOf 12 = .ok (.iload_n 2, 1) := by decide +kernel
theorem dX8_placeOf_13 : decode cX8_placeOf 13 = .ok (.ifCond .lt 21, 3) := by decide +kernel
theorem dX8_placeOf_16 : decode cX8_placeOf 16 = .ok (.iload_n 2, 1) := by decide +kernel
theorem dX8_placeOf_17 : decode cX8_placeOf 17 = .ok (.aload_n 0, 1) := by decide +kernel
theorem dX8_placeOf_18 : decode cX8_placeOf 18 = .ok (.getfield 19, 3) := by decide +kernel
theorem dX8_placeOf_21 : decode cX8_placeOf 21 = .ok (.if_icmp .ge 13, 3) := by decide +kernel
theorem dX8_placeOf_24 : decode cX8_placeOf 24 = .ok (.iload_n 2, 1) := by decide +kernel
theorem dX8_placeOf_25 : decode cX8_placeOf 25 = .ok (.bipush 12, 2) := by decide +kernel
theorem dX8_placeOf_27 : decode cX8_placeOf 27 = .ok (.if_icmp .ge 7, 3) := by decide +kernel
theorem dX8_placeOf_30 : decode cX8_placeOf 30 = .ok (.iconst 1, 1) := by decide +kernel
theorem dX8_placeOf_31 : decode cX8_placeOf 31 = .ok (.goto 4, 3) := by decide +kernel
theorem dX8_placeOf_34 : decode cX8_placeOf 34 = .ok (.iconst 0, 1) := by decide +kernel
theorem dX8_placeOf_35 : decode cX8_placeOf 35 = .ok (.istore_n 3, 1) := by decide +kernel
theorem dX8_placeOf_36 : decode cX8_placeOf 36 = .ok (.iload_n 3, 1) := by decide +kernel
theorem dX8_placeOf_37 : decode cX8_placeOf 37 = .ok (.ifCond .eq 12, 3) := by decide +kernel
theorem dX8_placeOf_40 : decode cX8_placeOf 40 = .ok (.bipush 12, 2) := by decide +kernel
theorem dX8_placeOf_42 : decode cX8_placeOf 42 = .ok (.iload_n 1, 1) := by decide +kernel
theorem dX8_placeOf_43 : decode cX8_placeOf 43 = .ok (.imul, 1) := by decide +kernel
theorem dX8_placeOf_44 : decode cX8_placeOf 44 = .ok (.iload_n 2, 1) := by decide +kernel
theorem dX8_placeOf_45 : decode cX8_placeOf 45 = .ok (.iadd, 1) := by decide +kernel
theorem dX8_placeOf_46 : decode cX8_placeOf 46 = .ok (.goto 4, 3) := by decide +kernel
theorem dX8_placeOf_49 : decode cX8_placeOf 49 = .ok (.iconst (-1), 1) := by decide +kernel
theorem dX8_placeOf_50 : decode cX8_placeOf 50 = .ok (.ireturn, 1) := by decide +kernel
theorem dX8_reshape_0 : decode cX8_reshape 0 = .ok (.aload_n 0, 1) := by decide +kernel
theorem dX8_reshape_1 : decode cX8_reshape 1 = .ok (.iload_n 1, 1) := by decide +kernel
theorem dX8_reshape_2 : decode cX8_reshape 2 = .ok (.putfield 15, 3) := by decide +kernel
theorem dX8_reshape_5 : decode cX8_reshape 5 = .ok (.aload_n 0, 1) := by decide +kernel
theorem dX8_reshape_6 : decode cX8_reshape 6 = .ok (.iload_n 2, 1) := by decide +kernel
theorem dX8_reshape_7 : decode cX8_reshape 7 = .ok (.putfield 19, 3) := by decide +kernel
theorem dX8_reshape_10 : decode cX8_reshape 10 = .ok (.aload_n 0, 1) := by decide +kernel
theorem dX8_reshape_11 : decode cX8_reshape 11 = .ok (.getfield 11, 3) := by decide +kernel
theorem dX8_reshape_14 : decode cX8_reshape 14 = .ok (.lconst 0, 1) := by decide +kernel
theorem dX8_reshape_15 : decode cX8_reshape 15 = .ok (.invokestatic 22, 3) := by decide +kernel
theorem dX8_reshape_18 : decode cX8_reshape 18 = .ok (.return_, 1) := by decide +kernel
theorem dX8_splitAt_0 : decode cX8_splitAt 0 = .ok (.aload_n 0, 1) := by decide +kernel
theorem dX8_splitAt_1 : decode cX8_splitAt 1 = .ok (.getfield 15, 3) := by decide +kernel
theorem dX8_splitAt_4 : decode cX8_splitAt 4 = .ok (.istore 5, 2) := by decide +kernel
theorem dX8_splitAt_6 : decode cX8_splitAt 6 = .ok (.aload_n 0, 1) := by decide +kernel
theorem dX8_splitAt_7 : decode cX8_splitAt 7 = .ok (.iload_n 1, 1) := by decide +kernel
theorem dX8_splitAt_8 : decode cX8_splitAt 8 = .ok (.iload_n 2, 1) := by decide +kernel
theorem dX8_splitAt_9 : decode cX8_splitAt 9 = .ok (.invokevirtual 38, 3) := by decide +kernel
theorem dX8_splitAt_12 : decode cX8_splitAt 12 = .ok (.lload_n 3, 1) := by decide +kernel
theorem dX8_splitAt_13 : decode cX8_splitAt 13 = .ok (.lsub, 1) := by decide +kernel
theorem dX8_splitAt_14 : decode cX8_splitAt 14 = .ok (.lstore 6, 2) := by decide +kernel
theorem dX8_splitAt_16 : decode cX8_splitAt 16 = .ok (.aload_n 0, 1) := by decide +kernel
theorem dX8_splitAt_17 : decode cX8_splitAt 17 = .ok (.dup, 1) := by decide +kernel
theorem dX8_splitAt_18 : decode cX8_splitAt 18 = .ok (.getfield 15, 3) := by decide +kernel
theorem dX8_splitAt_21 : decode cX8_splitAt 21 = .ok (.iconst 1, 1) := by decide +kernel
theorem dX8_splitAt_22 : decode cX8_splitAt 22 = .ok (.iadd, 1) := by decide +kernel
theorem dX8_splitAt_23 : decode cX8_splitAt 23 = .ok (.putfield 15, 3) := by decide +kernel
theorem dX8_splitAt_26 : decode cX8_splitAt 26 = .ok (.aload_n 0, 1) := by decide +kernel
theorem dX8_splitAt_27 : decode cX8_splitAt 27 = .ok (.dup, 1) := by decide +kernel
theorem dX8_splitAt_28 : decode cX8_splitAt 28 = .ok (.getfield 19, 3) := by decide +kernel
theorem dX8_splitAt_31 : decode cX8_splitAt 31 = .ok (.iconst 1, 1) := by decide +kernel
theorem dX8_splitAt_32 : decode cX8_splitAt 32 = .ok (.iadd, 1) := by decide +kernel
theorem dX8_splitAt_33 : decode cX8_splitAt 33 = .ok (.putfield 19, 3) := by decide +kernel
theorem dX8_splitAt_36 : decode cX8_splitAt 36 = .ok (.aload_n 0, 1) := by decide +kernel
theorem dX8_splitAt_37 : decode cX8_splitAt 37 = .ok (.iload_n 1, 1) := by decide +kernel
theorem dX8_splitAt_38 : decode cX8_splitAt 38 = .ok (.iload_n 2, 1) := by decide +kernel
theorem dX8_splitAt_39 : decode cX8_splitAt 39 = .ok (.lload_n 3, 1) := by decide +kernel
theorem dX8_splitAt_40 : decode cX8_splitAt 40 = .ok (.invokevirtual 46, 3) := by decide +kernel
theorem dX8_splitAt_43 : decode cX8_splitAt 43 = .ok (.aload_n 0, 1) := by decide +kernel
theorem dX8_splitAt_44 : decode cX8_splitAt 44 = .ok (.iload 5, 2) := by decide +kernel
theorem dX8_splitAt_46 : decode cX8_splitAt 46 = .ok (.iload_n 2, 1) := by decide +kernel
theorem dX8_splitAt_47 : decode cX8_splitAt 47 = .ok (.lload 6, 2) := by decide +kernel
theorem dX8_splitAt_49 : decode cX8_splitAt 49 = .ok (.invokevirtual 46, 3) := by decide +kernel
theorem dX8_splitAt_52 : decode cX8_splitAt 52 = .ok (.iconst 0, 1) := by decide +kernel
theorem dX8_splitAt_53 : decode cX8_splitAt 53 = .ok (.istore 8, 2) := by decide +kernel
theorem dX8_splitAt_55 : decode cX8_splitAt 55 = .ok (.iload 8, 2) := by decide +kernel
theorem dX8_splitAt_57 : decode cX8_splitAt 57 = .ok (.aload_n 0, 1) := by decide +kernel
theorem dX8_splitAt_58 : decode cX8_splitAt 58 = .ok (.getfield 15, 3) := by decide +kernel
theorem dX8_splitAt_61 : decode cX8_splitAt 61 = .ok (.if_icmp .ge 24, 3) := by decide +kernel
theorem dX8_splitAt_64 : decode cX8_splitAt 64 = .ok (.aload_n 0, 1) := by decide +kernel
theorem dX8_splitAt_65 : decode cX8_splitAt 65 = .ok (.iload 8, 2) := by decide +kernel
theorem dX8_splitAt_67 : decode cX8_splitAt 67 = .ok (.iload 5, 2) := by decide +kernel
theorem dX8_splitAt_69 : decode cX8_splitAt 69 = .ok (.aload_n 0, 1) := by decide +kernel
theorem dX8_splitAt_70 : decode cX8_splitAt 70 = .ok (.iload 8, 2) := by decide +kernel
theorem dX8_splitAt_72 : decode cX8_splitAt 72 = .ok (.iload_n 1, 1) := by decide +kernel
theorem dX8_splitAt_73 : decode cX8_splitAt 73 = .ok (.invokevirtual 38, 3) := by decide +kernel
theorem dX8_splitAt_76 : decode cX8_splitAt 76 = .ok (.invokevirtual 46, 3) := by decide +kernel
theorem dX8_splitAt_79 : decode cX8_splitAt 79 = .ok (.iinc 8 1, 3) := by decide +kernel
theorem dX8_splitAt_82 : decode cX8_splitAt 82 = .ok (.goto (-27), 3) := by decide +kernel
theorem dX8_splitAt_85 : decode cX8_splitAt 85 = .ok (.return_, 1) := by decide +kernel
theorem dX8_write_0 : decode cX8_write 0 = .ok (.aload_n 0, 1) := by decide +kernel
theorem dX8_write_1 : decode cX8_write 1 = .ok (.iload_n 1, 1) := by decide +kernel
theorem dX8_write_2 : decode cX8_write 2 = .ok (.iload_n 2, 1) := by decide +kernel
theorem dX8_write_3 : decode cX8_write 3 = .ok (.invokevirtual 28, 3) := by decide +kernel
theorem dX8_write_6 : decode cX8_write 6 = .ok (.istore 5, 2) := by decide +kernel
theorem dX8_write_8 : decode cX8_write 8 = .ok (.iload 5, 2) := by decide +kernel
theorem dX8_write_10 : decode cX8_write 10 = .ok (.ifCond .lt 21, 3) := by decide +kernel
theorem dX8_write_13 : decode cX8_write 13 = .ok (.iload 5, 2) := by decide +kernel
theorem dX8_write_15 : decode cX8_write 15 = .ok (.aload_n 0, 1) := by decide +kernel
theorem dX8_write_16 : decode cX8_write 16 = .ok (.getfield 11, 3) := by decide +kernel
theorem dX8_write_19 : decode cX8_write 19 = .ok (.arraylength, 1) := by decide +kernel
theorem dX8_write_20 : decode cX8_write 20 = .ok (.if_icmp .ge 11, 3) := by decide +kernel
theorem dX8_write_23 : decode cX8_write 23 = .ok (.aload_n 0, 1) := by decide +kernel
theorem dX8_write_24 : decode cX8_write 24 = .ok (.getfield 11, 3) := by decide +kernel
theorem dX8_write_27 : decode cX8_write 27 = .ok (.iload 5, 2) := by decide +kernel
theorem dX8_write_29 : decode cX8_write 29 = .ok (.lload_n 3, 1) := by decide +kernel
theorem dX8_write_30 : decode cX8_write 30 = .ok (.lastore, 1) := by decide +kernel
theorem dX8_write_31 : decode cX8_write 31 = .ok (.return_, 1) := by decide +kernel
theorem dX9_append_0 : decode cX9_append 0 = .ok (.aload_n 0, 1) := by decide +kernel
theorem dX9_append_1 : decode cX9_append 1 = .ok (.getfield 19, 3) := by decide +kernel
theorem dX9_append_4 : decode cX9_append 4 = .ok (.ifCond .lt 35, 3) := by decide +kernel
theorem dX9_append_7 : decode cX9_append 7 = .ok (.aload_n 0, 1) := by decide +kernel
theorem dX9_append_8 : decode cX9_append 8 = .ok (.getfield 19, 3) := by decide +kernel
theorem dX9_append_11 : decode cX9_append 11 = .ok (.aload_n 0, 1) := by decide +kernel
theorem dX9_append_12 : decode cX9_append 12 = .ok (.getfield 9, 3) := by decide +kernel
theorem dX9_append_15 : decode cX9_append 15 = .ok (.arraylength, 1) := by decide +kernel
theorem dX9_append_16 : decode cX9_append 16 = .ok (.if_icmp .ge 23, 3) := by decide +kernel
theorem dX9_append_19 : decode cX9_append 19 = .ok (.aload_n 0, 1) := by decide +kernel
theorem dX9_append_20 : decode cX9_append 20 = .ok (.getfield 9, 3) := by decide +kernel
theorem dX9_append_23 : decode cX9_append 23 = .ok (.aload_n 0, 1) := by decide +kernel
theorem dX9_append_24 : decode cX9_append 24 = .ok (.getfield 19, 3) := by decide +kernel
theorem dX9_append_27 : decode cX9_append 27 = .ok (.iload_n 1, 1) := by decide +kernel
theorem dX9_append_28 : decode cX9_append 28 = .ok (.castore, 1) := by decide +kernel
theorem dX9_append_29 : decode cX9_append 29 = .ok (.aload_n 0, 1) := by decide +kernel
theorem dX9_append_30 : decode cX9_append 30 = .ok (.dup, 1) := by decide +kernel
theorem dX9_append_31 : decode cX9_append 31 = .ok (.getfield 19, 3) := by decide +kernel
theorem dX9_append_34 : decode cX9_append 34 = .ok (.iconst 1, 1) := by decide +kernel
theorem dX9_append_35 : decode cX9_append 35 = .ok (.iadd, 1) := by decide +kernel
theorem dX9_append_36 : decode cX9_append 36 = .ok (.putfield 19, 3) := by decide +kernel
theorem dX9_append_39 : decode cX9_append 39 = .ok (.return_, 1) := by decide +kernel
theorem dX9_at_0 : decode cX9_at 0 = .ok (.iload_n 1, 1) := by decide +kernel
theorem dX9_at_1 : decode cX9_at 1 = .ok (.ifCond .lt 29, 3) := by decide +kernel
theorem dX9_at_4 : decode cX9_at 4 = .ok (.iload_n 1, 1) := by decide +kernel
theorem dX9_at_5 : decode cX9_at 5 = .ok (.aload_n 0, 1) := by decide +kernel
theorem dX9_at_6 : decode cX9_at 6 = .ok (.getfield 19, 3) := by decide +kernel
theorem dX9_at_9 : decode cX9_at 9 = .ok (.if_icmp .ge 21, 3) := by decide +kernel
theorem dX9_at_12 : decode cX9_at 12 = .ok (.iload_n 1, 1) := by decide +kernel
theorem dX9_at_13 : decode cX9_at 13 = .ok (.aload_n 0, 1) := by decide +kernel
theorem dX9_at_14 : decode cX9_at 14 = .ok (.getfield 9, 3) := by decide +kernel
theorem dX9_at_17 : decode cX9_at 17 = .ok (.arraylength, 1) := by decide +kernel
theorem dX9_at_18 : decode cX9_at 18 = .ok (.if_icmp .ge 12, 3) := by decide +kernel
theorem dX9_at_21 : decode cX9_at 21 = .ok (.aload_n 0, 1) := by decide +kernel
theorem dX9_at_22 : decode cX9_at 22 = .ok (.getfield 9, 3) := by decide +kernel
theorem dX9_at_25 : decode cX9_at 25 = .ok (.iload_n 1, 1) := by decide +kernel
theorem dX9_at_26 : decode cX9_at 26 = .ok (.caload, 1) := by decide +kernel
theorem dX9_at_27 : decode cX9_at 27 = .ok (.goto 4, 3) := by decide +kernel
theorem dX9_at_30 : decode cX9_at 30 = .ok (.iconst 0, 1) := by decide +kernel
theorem dX9_at_31 : decode cX9_at 31 = .ok (.ireturn, 1) := by decide +kernel
theorem dX9_bars_0 : decode cX9_bars 0 = .ok (.iconst 0, 1) := by decide +kernel
theorem dX9_bars_1 : decode cX9_bars 1 = .ok (.istore 4, 2) := by decide +kernel
theorem dX9_bars_3 : decode cX9_bars 3 = .ok (.iconst 0, 1) := by decide +kernel
theorem dX9_bars_4 : decode cX9_bars 4 = .ok (.istore 5, 2) := by decide +kernel
theorem dX9_bars_6 : decode cX9_bars 6 = .ok (.iload 5, 2) := by decide +kernel
theorem dX9_bars_8 : decode cX9_bars 8 = .ok (.aload_n 0, 1) := by decide +kernel
theorem dX9_bars_9 : decode cX9_bars 9 = .ok (.getfield 19, 3) := by decide +kernel
theorem dX9_bars_12 : decode cX9_bars 12 = .ok (.if_icmp .gt 40, 3) := by decide +kernel
theorem dX9_bars_15 : decode cX9_bars 15 = .ok (.aload_n 0, 1) := by decide +kernel
theorem dX9_bars_16 : decode cX9_bars 16 = .ok (.iload 5, 2) := by decide +kernel
theorem dX9_bars_18 : decode cX9_bars 18 = .ok (.invokevirtual 35, 3) := by decide +kernel
theorem dX9_bars_21 : decode cX9_bars 21 = .ok (.ifCond .eq 25, 3) := by decide +kernel
theorem dX9_bars_24 : decode cX9_bars 24 = .ok (.aload_n 0, 1) := by decide +kernel
theorem dX9_bars_25 : decode cX9_bars 25 = .ok (.iload 4, 2) := by decide +kernel
theorem dX9_bars_27 : decode cX9_bars 27 = .ok (.iload 5, 2) := by decide +kernel
theorem dX9_bars_29 : decode cX9_bars 29 = .ok (.iload_n 1, 1) := by decide +kernel
theorem dX9_bars_30 : decode cX9_bars 30 = .ok (.iload_n 2, 1) := by decide +kernel
theorem dX9_bars_31 : decode cX9_bars 31 = .ok (.iload_n 3, 1) := by decide +kernel
theorem dX9_bars_32 : decode cX9_bars 32 = .ok (.invokevirtual 39, 3) := by decide +kernel
theorem dX9_bars_35 : decode cX9_bars 35 = .ok (.ifCond .eq 5, 3) := by decide +kernel
theorem dX9_bars_38 : decode cX9_bars 38 = .ok (.iconst 1, 1) := by decide +kernel
theorem dX9_bars_39 : decode cX9_bars 39 = .ok (.ireturn, 1) := by decide +kernel
theorem dX9_bars_40 : decode cX9_bars 40 = .ok (.iload 5, 2) := by decide +kernel
theorem dX9_bars_42 : decode cX9_bars 42 = .ok (.iconst 1, 1) := by decide +kernel
theorem dX9_bars_43 : decode cX9_bars 43 = .ok (.iadd, 1) := by decide +kernel
theorem dX9_bars_44 : decode cX9_bars 44 = .ok (.istore 4, 2) := by decide +kernel
theorem dX9_bars_46 : decode cX9_bars 46 = .ok (.iinc 5 1, 3) := by decide +kernel
theorem dX9_bars_49 : decode cX9_bars 49 = .ok (.goto (-43), 3) := by decide +kernel
theorem dX9_bars_52 : decode cX9_bars 52 = .ok (.iconst 0, 1) := by decide +kernel
theorem dX9_bars_53 : decode cX9_bars 53 = .ok (.ireturn, 1) := by decide +kernel
theorem dX9_empty_0 : decode cX9_empty 0 = .ok (.aload_n 0, 1) := by decide +kernel
theorem dX9_empty_1 : decode cX9_empty 1 = .ok (.iconst 0, 1) := by decide +kernel
theorem dX9_empty_2 : decode cX9_empty 2 = .ok (.putfield 19, 3) := by decide +kernel
theorem dX9_empty_5 : decode cX9_empty 5 = .ok (.return_, 1) := by decide +kernel
theorem dX9_endsWord_0 : decode cX9_endsWord 0 = .ok (.iload_n 1, 1) := by decide +kernel
theorem dX9_endsWord_1 : decode cX9_endsWord 1 = .ok (.aload_n 0, 1) := by decide +kernel
theorem dX9_endsWord_2 : decode cX9_endsWord 2 = .ok (.getfield 19, 3) := by decide +kernel
theorem dX9_endsWord_5 : decode cX9_endsWord 5 = .ok (.if_icmp .ge 13, 3) := by decide +kernel
theorem dX9_endsWord_8 : decode cX9_endsWord 8 = .ok (.aload_n 0, 1) := by decide +kernel
theorem dX9_endsWord_9 : decode cX9_endsWord 9 = .ok (.iload_n 1, 1) := by decide +kernel
theorem dX9_endsWord_10 : decode cX9_endsWord 10 = .ok (.invokevirtual 23, 3) := by decide +kernel
theorem dX9_endsWord_13 : decode cX9_endsWord 13 = .ok (.bipush 44, 2) := by decide +kernel
theorem dX9_endsWord_15 : decode cX9_endsWord 15 = .ok (.if_icmp .ne 7, 3) := by decide +kernel
theorem dX9_endsWord_18 : decode cX9_endsWord 18 = .ok (.iconst 1, 1) := by decide +kernel
theorem dX9_endsWord_19 : decode cX9_endsWord 19 = .ok (.goto 4, 3) := by decide +kernel
theorem dX9_endsWord_22 : decode cX9_endsWord 22 = .ok (.iconst 0, 1) := by decide +kernel
theorem dX9_endsWord_23 : decode cX9_endsWord 23 = .ok (.ireturn, 1) := by decide +kernel
theorem dX9_hasOnlyLetters_0 : decode cX9_hasOnlyLetters 0 = .ok (.iconst 0, 1) := by decide +kernel
theorem dX9_hasOnlyLetters_1 : decode cX9_hasOnlyLetters 1 = .ok (.istore_n 2, 1) := by decide +kernel
theorem dX9_hasOnlyLetters_2 : decode cX9_hasOnlyLetters 2 = .ok (.iload_n 2, 1) := by decide +kernel
theorem dX9_hasOnlyLetters_3 : decode cX9_hasOnlyLetters 3 = .ok (.aload_n 0, 1) := by decide +kernel
theorem dX9_hasOnlyLetters_4 : decode cX9_hasOnlyLetters 4 = .ok (.getfield 19, 3) := by decide +kernel
theorem dX9_hasOnlyLetters_7 : decode cX9_hasOnlyLetters 7 = .ok (.if_icmp .ge 26, 3) := by decide +kernel
theorem dX9_hasOnlyLetters_10 : decode cX9_hasOnlyLetters 10 = .ok (.aload_n 0, 1) := by decide +kernel
theorem dX9_hasOnlyLetters_11 : decode cX9_hasOnlyLetters 11 = .ok (.iload_n 2, 1) := by decide +kernel
theorem dX9_hasOnlyLetters_12 : decode cX9_hasOnlyLetters 12 = .ok (.invokevirtual 31, 3) := by decide +kernel
theorem dX9_hasOnlyLetters_15 : decode cX9_hasOnlyLetters 15 = .ok (.istore_n 3, 1) := by decide +kernel
theorem dX9_hasOnlyLetters_16 : decode cX9_hasOnlyLetters 16 = .ok (.iload_n 3, 1) := by decide +kernel
theorem dX9_hasOnlyLetters_17 : decode cX9_hasOnlyLetters 17 = .ok (.ifCond .lt 8, 3) := by decide +kernel
theorem dX9_hasOnlyLetters_20 : decode cX9_hasOnlyLetters 20 = .ok (.iload_n 3, 1) := by decide +kernel
theorem dX9_hasOnlyLetters_21 : decode cX9_hasOnlyLetters 21 = .ok (.iload_n 1, 1) := by decide +kernel
theorem dX9_hasOnlyLetters_22 : decode cX9_hasOnlyLetters 22 = .ok (.if_icmp .lt 5, 3) := by decide +kernel
theorem dX9_hasOnlyLetters_25 : decode cX9_hasOnlyLetters 25 = .ok (.iconst 0, 1) := by decide +kernel
theorem dX9_hasOnlyLetters_26 : decode cX9_hasOnlyLetters 26 = .ok (.ireturn, 1) := by decide +kernel
theorem dX9_hasOnlyLetters_27 : decode cX9_hasOnlyLetters 27 = .ok (.iinc 2 1, 3) := by decide +kernel
theorem dX9_hasOnlyLetters_30 : decode cX9_hasOnlyLetters 30 = .ok (.goto (-28), 3) := by decide +kernel
theorem dX9_hasOnlyLetters_33 : decode cX9_hasOnlyLetters 33 = .ok (.iconst 1, 1) := by decide +kernel
theorem dX9_hasOnlyLetters_34 : decode cX9_hasOnlyLetters 34 = .ok (.ireturn, 1) := by decide +kernel
theorem dX9_init_0 : decode cX9_init 0 = .ok (.aload_n 0, 1) := by decide +kernel
theorem dX9_init_1 : decode cX9_init 1 = .ok (.invokespecial 3, 3) := by decide +kernel
theorem dX9_init_4 : decode cX9_init 4 = .ok (.aload_n 0, 1) := by decide +kernel
theorem dX9_init_5 : decode cX9_init 5 = .ok (.bipush 40, 2) := by decide +kernel
theorem dX9_init_7 : decode cX9_init 7 = .ok (.newarray .char, 2) := by decide +kernel
theorem dX9_init_9 : decode cX9_init 9 = .ok (.putfield 9, 3) := by decide +kernel
theorem dX9_init_12 : decode cX9_init 12 = .ok (.return_, 1) := by decide +kernel
theorem dX9_isForbidden_0 : decode cX9_isForbidden 0 = .ok (.iconst 0, 1) := by decide +kernel
theorem dX9_isForbidden_1 : decode cX9_isForbidden 1 = .ok (.istore_n 2, 1) := by decide +kernel
theorem dX9_isForbidden_2 : decode cX9_isForbidden 2 = .ok (.iconst 0, 1) := by decide +kernel
theorem dX9_isForbidden_3 : decode cX9_isForbidden 3 = .ok (.istore_n 3, 1) := by decide +kernel
theorem dX9_isForbidden_4 : decode cX9_isForbidden 4 = .ok (.iload_n 3, 1) := by decide +kernel
theorem dX9_isForbidden_5 : decode cX9_isForbidden 5 = .ok (.aload_n 0, 1) := by decide +kernel
theorem dX9_isForbidden_6 : decode cX9_isForbidden 6 = .ok (.getfield 19, 3) := by decide +kernel
theorem dX9_isForbidden_9 : decode cX9_isForbidden 9 = .ok (.if_icmp .gt 64, 3) := by decide +kernel
theorem dX9_isForbidden_12 : decode cX9_isForbidden 12 = .ok (.aload_n 0, 1) := by decide +kernel
theorem dX9_isForbidden_13 : decode cX9_isForbidden 13 = .ok (.getfield 19, 3) := by decide +kernel
theorem dX9_isForbidden_16 : decode cX9_isForbidden 16 = .ok (.ifCond .le 57, 3) := by decide +kernel
theorem dX9_isForbidden_19 : decode cX9_isForbidden 19 = .ok (.aload_n 0, 1) := by decide +kernel
theorem dX9_isForbidden_20 : decode cX9_isForbidden 20 = .ok (.iload_n 3, 1) := by decide +kernel
theorem dX9_isForbidden_21 : decode cX9_isForbidden 21 = .ok (.invokevirtual 31, 3) := by decide +kernel
theorem dX9_isForbidden_24 : decode cX9_isForbidden 24 = .ok (.istore 4, 2) := by decide +kernel
theorem dX9_isForbidden_26 : decode cX9_isForbidden 26 = .ok (.aload_n 0, 1) := by decide +kernel
theorem dX9_isForbidden_27 : decode cX9_isForbidden 27 = .ok (.iload_n 3, 1) := by decide +kernel
theorem dX9_isForbidden_28 : decode cX9_isForbidden 28 = .ok (.invokevirtual 35, 3) := by decide +kernel
theorem dX9_isForbidden_31 : decode cX9_isForbidden 31 = .ok (.ifCond .eq 20, 3) := by decide +kernel
theorem dX9_isForbidden_34 : decode cX9_isForbidden 34 = .ok (.iload_n 2, 1) := by decide +kernel
theorem dX9_isForbidden_35 : decode cX9_isForbidden 35 = .ok (.iconst 1, 1) := by decide +kernel
theorem dX9_isForbidden_36 : decode cX9_isForbidden 36 = .ok (.if_icmp .lt 8, 3) := by decide +kernel
theorem dX9_isForbidden_39 : decode cX9_isForbidden 39 = .ok (.iload_n 2, 1) := by decide +kernel
theorem dX9_isForbidden_40 : decode cX9_isForbidden 40 = .ok (.iconst 3, 1) := by decide +kernel
theorem dX9_isForbidden_41 : decode cX9_isForbidden 41 = .ok (.if_icmp .le 5, 3) := by decide +kernel
theorem dX9_isForbidden_44 : decode cX9_isForbidden 44 = .ok (.iconst 0, 1) := by decide +kernel
theorem dX9_isForbidden_45 : decode cX9_isForbidden 45 = .ok (.ireturn, 1) := by decide +kernel
theorem dX9_isForbidden_46 : decode cX9_isForbidden 46 = .ok (.iconst 0, 1) := by decide +kernel
theorem dX9_isForbidden_47 : decode cX9_isForbidden 47 = .ok (.istore_n 2, 1) := by decide +kernel
theorem dX9_isForbidden_48 : decode cX9_isForbidden 48 = .ok (.goto 19, 3) := by decide +kernel
theorem dX9_isForbidden_51 : decode cX9_isForbidden 51 = .ok (.iload 4, 2) := by decide +kernel
theorem dX9_isForbidden_53 : decode cX9_isForbidden 53 = .ok (.ifCond .lt 9, 3) := by decide +kernel
theorem dX9_isForbidden_56 : decode cX9_isForbidden 56 = .ok (.iload 4, 2) := by decide +kernel
theorem dX9_isForbidden_58 : decode cX9_isForbidden 58 = .ok (.iload_n 1, 1) := by decide +kernel
theorem dX9_isForbidden_59 : decode cX9_isForbidden 59 = .ok (.if_icmp .lt 5, 3) := by decide +kernel
theorem dX9_isForbidden_62 : decode cX9_isForbidden 62 = .ok (.iconst 0, 1) := by decide +kernel
theorem dX9_isForbidden_63 : decode cX9_isForbidden 63 = .ok (.ireturn, 1) := by decide +kernel
theorem dX9_isForbidden_64 : decode cX9_isForbidden 64 = .ok (.iinc 2 1, 3) := by decide +kernel
theorem dX9_isForbidden_67 : decode cX9_isForbidden 67 = .ok (.iinc 3 1, 3) := by decide +kernel
theorem dX9_isForbidden_70 : decode cX9_isForbidden 70 = .ok (.goto (-66), 3) := by decide +kernel
theorem dX9_isForbidden_73 : decode cX9_isForbidden 73 = .ok (.iconst 1, 1) := by decide +kernel
theorem dX9_isForbidden_74 : decode cX9_isForbidden 74 = .ok (.ireturn, 1) := by decide +kernel
theorem dX9_isInBounds_0 : decode cX9_isInBounds 0 = .ok (.aload_n 0, 1) := by decide +kernel
theorem dX9_isInBounds_1 : decode cX9_isInBounds 1 = .ok (.getfield 19, 3) := by decide +kernel
theorem dX9_isInBounds_4 : decode cX9_isInBounds 4 = .ok (.ifCond .lt 19, 3) := by decide +kernel
theorem dX9_isInBounds_7 : decode cX9_isInBounds 7 = .ok (.aload_n 0, 1) := by decide +kernel
theorem dX9_isInBounds_8 : decode cX9_isInBounds 8 = .ok (.getfield 19, 3) := by decide +kernel
theorem dX9_isInBounds_11 : decode cX9_isInBounds 11 = .ok (.aload_n 0, 1) := by decide +kernel
theorem dX9_isInBounds_12 : decode cX9_isInBounds 12 = .ok (.getfield 9, 3) := by decide +kernel
theorem dX9_isInBounds_15 : decode cX9_isInBounds 15 = .ok (.arraylength, 1) := by decide +kernel
theorem dX9_isInBounds_16 : decode cX9_isInBounds 16 = .ok (.if_icmp .gt 7, 3) := by decide +kernel
theorem dX9_isInBounds_19 : decode cX9_isInBounds 19 = .ok (.iconst 1, 1) := by decide +kernel
theorem dX9_isInBounds_20 : decode cX9_isInBounds 20 = .ok (.goto 4, 3) := by decide +kernel
theorem dX9_isInBounds_23 : decode cX9_isInBounds 23 = .ok (.iconst 0, 1) := by decide +kernel
theorem dX9_isInBounds_24 : decode cX9_isInBounds 24 = .ok (.istore_n 1, 1) := by decide +kernel
theorem dX9_isInBounds_25 : decode cX9_isInBounds 25 = .ok (.iconst 0, 1) := by decide +kernel
theorem dX9_isInBounds_26 : decode cX9_isInBounds 26 = .ok (.istore_n 2, 1) := by decide +kernel
theorem dX9_isInBounds_27 : decode cX9_isInBounds 27 = .ok (.iload_n 2, 1) := by decide +kernel
theorem dX9_isInBounds_28 : decode cX9_isInBounds 28 = .ok (.aload_n 0, 1) := by decide +kernel
theorem dX9_isInBounds_29 : decode cX9_isInBounds 29 = .ok (.getfield 19, 3) := by decide +kernel
theorem dX9_isInBounds_32 : decode cX9_isInBounds 32 = .ok (.if_icmp .ge 30, 3) := by decide +kernel
theorem dX9_isInBounds_35 : decode cX9_isInBounds 35 = .ok (.iload_n 1, 1) := by decide +kernel
theorem dX9_isInBounds_36 : decode cX9_isInBounds 36 = .ok (.ifCond .eq 18, 3) := by decide +kernel
theorem dX9_isInBounds_39 : decode cX9_isInBounds 39 = .ok (.aload_n 0, 1) := by decide +kernel
theorem dX9_isInBounds_40 : decode cX9_isInBounds 40 = .ok (.iload_n 2, 1) := by decide +kernel
theorem dX9_isInBounds_41 : decode cX9_isInBounds 41 = .ok (.invokevirtual 23, 3) := by decide +kernel
theorem dX9_isInBounds_44 : decode cX9_isInBounds 44 = .ok (.invokestatic 27, 3) := by decide +kernel
theorem dX9_isInBounds_47 : decode cX9_isInBounds 47 = .ok (.ifCond .eq 7, 3) := by decide +kernel
theorem dX9_isInBounds_50 : decode cX9_isInBounds 50 = .ok (.iconst 1, 1) := by decide +kernel
theorem dX9_isInBounds_51 : decode cX9_isInBounds 51 = .ok (.goto 4, 3) := by decide +kernel
theorem dX9_isInBounds_54 : decode cX9_isInBounds 54 = .ok (.iconst 0, 1) := by decide +kernel
theorem dX9_isInBounds_55 : decode cX9_isInBounds 55 = .ok (.istore_n 1, 1) := by decide +kernel
theorem dX9_isInBounds_56 : decode cX9_isInBounds 56 = .ok (.iinc 2 1, 3) := by decide +kernel
theorem dX9_isInBounds_59 : decode cX9_isInBounds 59 = .ok (.goto (-32), 3) := by decide +kernel
theorem dX9_isInBounds_62 : decode cX9_isInBounds 62 = .ok (.iload_n 1, 1) := by decide +kernel
theorem dX9_isInBounds_63 : decode cX9_isInBounds 63 = .ok (.ireturn, 1) := by decide +kernel
theorem dX9_isSign_0 : decode cX9_isSign 0 = .ok (.iload_n 0, 1) := by decide +kernel
theorem dX9_isSign_1 : decode cX9_isSign 1 = .ok (.invokestatic 15, 3) := by decide +kernel
theorem dX9_isSign_4 : decode cX9_isSign 4 = .ok (.ifCond .ge 21, 3) := by decide +kernel
theorem dX9_isSign_7 : decode cX9_isSign 7 = .ok (.iload_n 0, 1) := by decide +kernel
theorem dX9_isSign_8 : decode cX9_isSign 8 = .ok (.bipush 76, 2) := by decide +kernel
theorem dX9_isSign_10 : decode cX9_isSign 10 = .ok (.if_icmp .eq 15, 3) := by decide +kernel
theorem dX9_isSign_13 : decode cX9_isSign 13 = .ok (.iload_n 0, 1) := by decide +kernel
theorem dX9_isSign_14 : decode cX9_isSign 14 = .ok (.bipush 82, 2) := by decide +kernel
theorem dX9_isSign_16 : decode cX9_isSign 16 = .ok (.if_icmp .eq 9, 3) := by decide +kernel
theorem dX9_isSign_19 : decode cX9_isSign 19 = .ok (.iload_n 0, 1) := by decide +kernel
theorem dX9_isSign_20 : decode cX9_isSign 20 = .ok (.bipush 44, 2) := by decide +kernel
theorem dX9_isSign_22 : decode cX9_isSign 22 = .ok (.if_icmp .ne 7, 3) := by decide +kernel
theorem dX9_isSign_25 : decode cX9_isSign 25 = .ok (.iconst 1, 1) := by decide +kernel
theorem dX9_isSign_26 : decode cX9_isSign 26 = .ok (.goto 4, 3) := by decide +kernel
theorem dX9_isSign_29 : decode cX9_isSign 29 = .ok (.iconst 0, 1) := by decide +kernel
theorem dX9_isSign_30 : decode cX9_isSign 30 = .ok (.ireturn, 1) := by decide +kernel
theorem dX9_letterAt_0 : decode cX9_letterAt 0 = .ok (.aload_n 0, 1) := by decide +kernel
theorem dX9_letterAt_1 : decode cX9_letterAt 1 = .ok (.iload_n 1, 1) := by decide +kernel
theorem dX9_letterAt_2 : decode cX9_letterAt 2 = .ok (.invokevirtual 23, 3) := by decide +kernel
theorem dX9_letterAt_5 : decode cX9_letterAt 5 = .ok (.invokestatic 15, 3) := by decide +kernel
theorem dX9_letterAt_8 : decode cX9_letterAt 8 = .ok (.ireturn, 1) := by decide +kernel
theorem dX9_letterOf_0 : decode cX9_letterOf 0 = .ok (.iload_n 0, 1) := by decide +kernel
theorem dX9_letterOf_1 : decode cX9_letterOf 1 = .ok (.bipush 97, 2) := by decide +kernel
theorem dX9_letterOf_3 : decode cX9_letterOf 3 = .ok (.if_icmp .lt 16, 3) := by decide +kernel
theorem dX9_letterOf_6 : decode cX9_letterOf 6 = .ok (.iload_n 0, 1) := by decide +kernel
theorem dX9_letterOf_7 : decode cX9_letterOf 7 = .ok (.bipush 99, 2) := by decide +kernel
theorem dX9_letterOf_9 : decode cX9_letterOf 9 = .ok (.if_icmp .gt 10, 3) := by decide +kernel
theorem dX9_letterOf_12 : decode cX9_letterOf 12 = .ok (.iload_n 0, 1) := by decide +kernel
theorem dX9_letterOf_13 : decode cX9_letterOf 13 = .ok (.bipush 97, 2) := by decide +kernel
theorem dX9_letterOf_15 : decode cX9_letterOf 15 = .ok (.isub, 1) := by decide +kernel
theorem dX9_letterOf_16 : decode cX9_letterOf 16 = .ok (.goto 4, 3) := by decide +kernel
theorem dX9_letterOf_19 : decode cX9_letterOf 19 = .ok (.iconst (-1), 1) := by decide +kernel
theorem dX9_letterOf_20 : decode cX9_letterOf 20 = .ok (.ireturn, 1) := by decide +kernel
theorem dX9_signOf_0 : decode cX9_signOf 0 = .ok (.bipush 97, 2) := by decide +kernel
theorem dX9_signOf_2 : decode cX9_signOf 2 = .ok (.iload_n 0, 1) := by decide +kernel
theorem dX9_signOf_3 : decode cX9_signOf 3 = .ok (.iadd, 1) := by decide +kernel
theorem dX9_signOf_4 : decode cX9_signOf 4 = .ok (.i2c, 1) := by decide +kernel
theorem dX9_signOf_5 : decode cX9_signOf 5 = .ok (.ireturn, 1) := by decide +kernel
theorem dX9_slideBy_0 : decode cX9_slideBy 0 = .ok (.iconst 0, 1) := by decide +kernel
theorem dX9_slideBy_1 : decode cX9_slideBy 1 = .ok (.istore_n 2, 1) := by decide +kernel
theorem dX9_slideBy_2 : decode cX9_slideBy 2 = .ok (.iload_n 2, 1) := by decide +kernel
theorem dX9_slideBy_3 : decode cX9_slideBy 3 = .ok (.iconst 1, 1) := by decide +kernel
theorem dX9_slideBy_4 : decode cX9_slideBy 4 = .ok (.iadd, 1) := by decide +kernel
theorem dX9_slideBy_5 : decode cX9_slideBy 5 = .ok (.aload_n 0, 1) := by decide +kernel
theorem dX9_slideBy_6 : decode cX9_slideBy 6 = .ok (.getfield 19, 3) := by decide +kernel
theorem dX9_slideBy_9 : decode cX9_slideBy 9 = .ok (.if_icmp .ge 43, 3) := by decide +kernel
theorem dX9_slideBy_12 : decode cX9_slideBy 12 = .ok (.iload_n 2, 1) := by decide +kernel
theorem dX9_slideBy_13 : decode cX9_slideBy 13 = .ok (.aload_n 0, 1) := by decide +kernel
theorem dX9_slideBy_14 : decode cX9_slideBy 14 = .ok (.getfield 9, 3) := by decide +kernel
theorem dX9_slideBy_17 : decode cX9_slideBy 17 = .ok (.arraylength, 1) := by decide +kernel
theorem dX9_slideBy_18 : decode cX9_slideBy 18 = .ok (.if_icmp .ge 34, 3) := by decide +kernel
theorem dX9_slideBy_21 : decode cX9_slideBy 21 = .ok (.aload_n 0, 1) := by decide +kernel
theorem dX9_slideBy_22 : decode cX9_slideBy 22 = .ok (.getfield 9, 3) := by decide +kernel
theorem dX9_slideBy_25 : decode cX9_slideBy 25 = .ok (.iload_n 2, 1) := by decide +kernel
theorem dX9_slideBy_26 : decode cX9_slideBy 26 = .ok (.aload_n 1, 1) := by decide +kernel
theorem dX9_slideBy_27 : decode cX9_slideBy 27 = .ok (.aload_n 0, 1) := by decide +kernel
theorem dX9_slideBy_28 : decode cX9_slideBy 28 = .ok (.iload_n 2, 1) := by decide +kernel
theorem dX9_slideBy_29 : decode cX9_slideBy 29 = .ok (.invokevirtual 31, 3) := by decide +kernel
theorem dX9_slideBy_32 : decode cX9_slideBy 32 = .ok (.aload_n 0, 1) := by decide +kernel
theorem dX9_slideBy_33 : decode cX9_slideBy 33 = .ok (.iload_n 2, 1) := by decide +kernel
theorem dX9_slideBy_34 : decode cX9_slideBy 34 = .ok (.iconst 1, 1) := by decide +kernel
theorem dX9_slideBy_35 : decode cX9_slideBy 35 = .ok (.iadd, 1) := by decide +kernel
theorem dX9_slideBy_36 : decode cX9_slideBy 36 = .ok (.invokevirtual 31, 3) := by decide +kernel
theorem dX9_slideBy_39 : decode cX9_slideBy 39 = .ok (.invokevirtual 43, 3) := by decide +kernel
theorem dX9_slideBy_42 : decode cX9_slideBy 42 = .ok (.invokestatic 49, 3) := by decide +kernel
theorem dX9_slideBy_45 : decode cX9_slideBy 45 = .ok (.castore, 1) := by decide +kernel
theorem dX9_slideBy_46 : decode cX9_slideBy 46 = .ok (.iinc 2 1, 3) := by decide +kernel
theorem dX9_slideBy_49 : decode cX9_slideBy 49 = .ok (.goto (-47), 3) := by decide +kernel
theorem dX9_slideBy_52 : decode cX9_slideBy 52 = .ok (.aload_n 0, 1) := by decide +kernel
theorem dX9_slideBy_53 : decode cX9_slideBy 53 = .ok (.getfield 19, 3) := by decide +kernel
theorem dX9_slideBy_56 : decode cX9_slideBy 56 = .ok (.ifCond .le 13, 3) := by decide +kernel
theorem dX9_slideBy_59 : decode cX9_slideBy 59 = .ok (.aload_n 0, 1) := by decide +kernel
theorem dX9_slideBy_60 : decode cX9_slideBy 60 = .ok (.dup, 1) := by decide +kernel
theorem dX9_slideBy_61 : decode cX9_slideBy 61 = .ok (.getfield 19, 3) := by decide +kernel
theorem dX9_slideBy_64 : decode cX9_slideBy 64 = .ok (.iconst 1, 1) := by decide +kernel
theorem dX9_slideBy_65 : decode cX9_slideBy 65 = .ok (.isub, 1) := by decide +kernel
theorem dX9_slideBy_66 : decode cX9_slideBy 66 = .ok (.putfield 19, 3) := by decide +kernel
theorem dX9_slideBy_69 : decode cX9_slideBy 69 = .ok (.return_, 1) := by decide +kernel
theorem dX9_standsIn_0 : decode cX9_standsIn 0 = .ok (.iload_n 2, 1) := by decide +kernel
theorem dX9_standsIn_1 : decode cX9_standsIn 1 = .ok (.iload_n 1, 1) := by decide +kernel
theorem dX9_standsIn_2 : decode cX9_standsIn 2 = .ok (.isub, 1) := by decide +kernel
theorem dX9_standsIn_3 : decode cX9_standsIn 3 = .ok (.istore 6, 2) := by decide +kernel
theorem dX9_standsIn_5 : decode cX9_standsIn 5 = .ok (.iconst 0, 1) := by decide +kernel
theorem dX9_standsIn_6 : decode cX9_standsIn 6 = .ok (.istore 7, 2) := by decide +kernel
theorem dX9_standsIn_8 : decode cX9_standsIn 8 = .ok (.iload 6, 2) := by decide +kernel
theorem dX9_standsIn_10 : decode cX9_standsIn 10 = .ok (.ifCond .le 100, 3) := by decide +kernel
theorem dX9_standsIn_13 : decode cX9_standsIn 13 = .ok (.iload 7, 2) := by decide +kernel
theorem dX9_standsIn_15 : decode cX9_standsIn 15 = .ok (.iload 6, 2) := by decide +kernel
theorem dX9_standsIn_17 : decode cX9_standsIn 17 = .ok (.iadd, 1) := by decide +kernel
theorem dX9_standsIn_18 : decode cX9_standsIn 18 = .ok (.iconst 3, 1) := by decide +kernel
theorem dX9_standsIn_19 : decode cX9_standsIn 19 = .ok (.if_icmp .gt 91, 3) := by decide +kernel
theorem dX9_standsIn_22 : decode cX9_standsIn 22 = .ok (.iconst 1, 1) := by decide +kernel
theorem dX9_standsIn_23 : decode cX9_standsIn 23 = .ok (.istore 8, 2) := by decide +kernel
theorem dX9_standsIn_25 : decode cX9_standsIn 25 = .ok (.iconst 0, 1) := by decide +kernel
theorem dX9_standsIn_26 : decode cX9_standsIn 26 = .ok (.istore 9, 2) := by decide +kernel
theorem dX9_standsIn_28 : decode cX9_standsIn 28 = .ok (.iload 9, 2) := by decide +kernel
theorem dX9_standsIn_30 : decode cX9_standsIn 30 = .ok (.iload 6, 2) := by decide +kernel
theorem dX9_standsIn_32 : decode cX9_standsIn 32 = .ok (.if_icmp .ge 65, 3) := by decide +kernel
theorem dX9_standsIn_35 : decode cX9_standsIn 35 = .ok (.iload 7, 2) := by decide +kernel
theorem dX9_standsIn_37 : decode cX9_standsIn 37 = .ok (.iload 9, 2) := by decide +kernel
theorem dX9_standsIn_39 : decode cX9_standsIn 39 = .ok (.iadd, 1) := by decide +kernel
theorem dX9_standsIn_40 : decode cX9_standsIn 40 = .ok (.istore 10, 2) := by decide +kernel
theorem dX9_standsIn_42 : decode cX9_standsIn 42 = .ok (.iload 10, 2) := by decide +kernel
theorem dX9_standsIn_44 : decode cX9_standsIn 44 = .ok (.ifCond .ne 7, 3) := by decide +kernel
theorem dX9_standsIn_47 : decode cX9_standsIn 47 = .ok (.iload_n 3, 1) := by decide +kernel
theorem dX9_standsIn_48 : decode cX9_standsIn 48 = .ok (.goto 16, 3) := by decide +kernel
theorem dX9_standsIn_51 : decode cX9_standsIn 51 = .ok (.iload 10, 2) := by decide +kernel
theorem dX9_standsIn_53 : decode cX9_standsIn 53 = .ok (.iconst 1, 1) := by decide +kernel
theorem dX9_standsIn_54 : decode cX9_standsIn 54 = .ok (.if_icmp .ne 8, 3) := by decide +kernel
theorem dX9_standsIn_57 : decode cX9_standsIn 57 = .ok (.iload 4, 2) := by decide +kernel
theorem dX9_standsIn_59 : decode cX9_standsIn 59 = .ok (.goto 5, 3) := by decide +kernel
theorem dX9_standsIn_62 : decode cX9_standsIn 62 = .ok (.iload 5, 2) := by decide +kernel
theorem dX9_standsIn_64 : decode cX9_standsIn 64 = .ok (.istore 11, 2) := by decide +kernel
theorem dX9_standsIn_66 : decode cX9_standsIn 66 = .ok (.iload 8, 2) := by decide +kernel
theorem dX9_standsIn_68 : decode cX9_standsIn 68 = .ok (.ifCond .eq 20, 3) := by decide +kernel
theorem dX9_standsIn_71 : decode cX9_standsIn 71 = .ok (.aload_n 0, 1) := by decide +kernel
theorem dX9_standsIn_72 : decode cX9_standsIn 72 = .ok (.iload_n 1, 1) := by decide +kernel
theorem dX9_standsIn_73 : decode cX9_standsIn 73 = .ok (.iload 9, 2) := by decide +kernel
theorem dX9_standsIn_75 : decode cX9_standsIn 75 = .ok (.iadd, 1) := by decide +kernel
theorem dX9_standsIn_76 : decode cX9_standsIn 76 = .ok (.invokevirtual 31, 3) := by decide +kernel
theorem dX9_standsIn_79 : decode cX9_standsIn 79 = .ok (.iload 11, 2) := by decide +kernel
theorem dX9_standsIn_81 : decode cX9_standsIn 81 = .ok (.if_icmp .ne 7, 3) := by decide +kernel
theorem dX9_standsIn_84 : decode cX9_standsIn 84 = .ok (.iconst 1, 1) := by decide +kernel
theorem dX9_standsIn_85 : decode cX9_standsIn 85 = .ok (.goto 4, 3) := by decide +kernel
theorem dX9_standsIn_88 : decode cX9_standsIn 88 = .ok (.iconst 0, 1) := by decide +kernel
theorem dX9_standsIn_89 : decode cX9_standsIn 89 = .ok (.istore 8, 2) := by decide +kernel
theorem dX9_standsIn_91 : decode cX9_standsIn 91 = .ok (.iinc 9 1, 3) := by decide +kernel
theorem dX9_standsIn_94 : decode cX9_standsIn 94 = .ok (.goto (-66), 3) := by decide +kernel
theorem dX9_standsIn_97 : decode cX9_standsIn 97 = .ok (.iload 8, 2) := by decide +kernel
theorem dX9_standsIn_99 : decode cX9_standsIn 99 = .ok (.ifCond .eq 5, 3) := by decide +kernel
theorem dX9_standsIn_102 : decode cX9_standsIn 102 = .ok (.iconst 1, 1) := by decide +kernel
theorem dX9_standsIn_103 : decode cX9_standsIn 103 = .ok (.ireturn, 1) := by decide +kernel
theorem dX9_standsIn_104 : decode cX9_standsIn 104 = .ok (.iinc 7 1, 3) := by decide +kernel
theorem dX9_standsIn_107 : decode cX9_standsIn 107 = .ok (.goto (-99), 3) := by decide +kernel
theorem dX9_standsIn_110 : decode cX9_standsIn 110 = .ok (.iconst 0, 1) := by decide +kernel
theorem dX9_standsIn_111 : decode cX9_standsIn 111 = .ok (.ireturn, 1) := by decide +kernel
