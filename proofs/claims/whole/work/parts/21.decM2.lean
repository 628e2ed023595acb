theorem d_Mo_byteAt_0 : decode b_Mo_byteAt 0 = .ok (.aload_n 0, 1) := by decide +kernel
theorem d_Mo_byteAt_1 : decode b_Mo_byteAt 1 = .ok (.iconst 0, 1) := by decide +kernel
theorem d_Mo_byteAt_2 : decode b_Mo_byteAt 2 = .ok (.putfield 45, 3) := by decide +kernel
theorem d_Mo_byteAt_5 : decode b_Mo_byteAt 5 = .ok (.iload_n 1, 1) := by decide +kernel
theorem d_Mo_byteAt_6 : decode b_Mo_byteAt 6 = .ok (.ifCond .lt 24, 3) := by decide +kernel
theorem d_Mo_byteAt_9 : decode b_Mo_byteAt 9 = .ok (.iload_n 1, 1) := by decide +kernel
theorem d_Mo_byteAt_10 : decode b_Mo_byteAt 10 = .ok (.aload_n 0, 1) := by decide +kernel
theorem d_Mo_byteAt_11 : decode b_Mo_byteAt 11 = .ok (.getfield 38, 3) := by decide +kernel
theorem d_Mo_byteAt_14 : decode b_Mo_byteAt 14 = .ok (.if_icmp .ge 16, 3) := by decide +kernel
theorem d_Mo_byteAt_17 : decode b_Mo_byteAt 17 = .ok (.aload_n 0, 1) := by decide +kernel
theorem d_Mo_byteAt_18 : decode b_Mo_byteAt 18 = .ok (.getfield 35, 3) := by decide +kernel
theorem d_Mo_byteAt_21 : decode b_Mo_byteAt 21 = .ok (.iload_n 1, 1) := by decide +kernel
theorem d_Mo_byteAt_22 : decode b_Mo_byteAt 22 = .ok (.baload, 1) := by decide +kernel
theorem d_Mo_byteAt_23 : decode b_Mo_byteAt 23 = .ok (.sipush 255, 3) := by decide +kernel
theorem d_Mo_byteAt_26 : decode b_Mo_byteAt 26 = .ok (.iand, 1) := by decide +kernel
theorem d_Mo_byteAt_27 : decode b_Mo_byteAt 27 = .ok (.goto 4, 3) := by decide +kernel
theorem d_Mo_byteAt_30 : decode b_Mo_byteAt 30 = .ok (.iconst (-1), 1) := by decide +kernel
theorem d_Mo_byteAt_31 : decode b_Mo_byteAt 31 = .ok (.ireturn, 1) := by decide +kernel
theorem d_Mo_copy_0 : decode b_Mo_copy 0 = .ok (.aload_n 0, 1) := by decide +kernel
theorem d_Mo_copy_1 : decode b_Mo_copy 1 = .ok (.iconst 0, 1) := by decide +kernel
theorem d_Mo_copy_2 : decode b_Mo_copy 2 = .ok (.putfield 45, 3) := by decide +kernel
theorem d_Mo_copy_5 : decode b_Mo_copy 5 = .ok (.aload_n 0, 1) := by decide +kernel
theorem d_Mo_copy_6 : decode b_Mo_copy 6 = .ok (.aload_n 0, 1) := by decide +kernel
theorem d_Mo_copy_7 : decode b_Mo_copy 7 = .ok (.getfield 38, 3) := by decide +kernel
theorem d_Mo_copy_10 : decode b_Mo_copy 10 = .ok (.iconst (-1), 1) := by decide +kernel
theorem d_Mo_copy_11 : decode b_Mo_copy 11 = .ok (.if_icmp .ne 7, 3) := by decide +kernel
theorem d_Mo_copy_14 : decode b_Mo_copy 14 = .ok (.iconst 0, 1) := by decide +kernel
theorem d_Mo_copy_15 : decode b_Mo_copy 15 = .ok (.goto 7, 3) := by decide +kernel
theorem d_Mo_copy_18 : decode b_Mo_copy 18 = .ok (.aload_n 0, 1) := by decide +kernel
theorem d_Mo_copy_19 : decode b_Mo_copy 19 = .ok (.getfield 38, 3) := by decide +kernel
theorem d_Mo_copy_22 : decode b_Mo_copy 22 = .ok (.putfield 86, 3) := by decide +kernel
theorem d_Mo_copy_25 : decode b_Mo_copy 25 = .ok (.iconst 0, 1) := by decide +kernel
theorem d_Mo_copy_26 : decode b_Mo_copy 26 = .ok (.istore_n 1, 1) := by decide +kernel
theorem d_Mo_copy_27 : decode b_Mo_copy 27 = .ok (.iload_n 1, 1) := by decide +kernel
theorem d_Mo_copy_28 : decode b_Mo_copy 28 = .ok (.aload_n 0, 1) := by decide +kernel
theorem d_Mo_copy_29 : decode b_Mo_copy 29 = .ok (.getfield 86, 3) := by decide +kernel
theorem d_Mo_copy_32 : decode b_Mo_copy 32 = .ok (.if_icmp .ge 21, 3) := by decide +kernel
theorem d_Mo_copy_35 : decode b_Mo_copy 35 = .ok (.aload_n 0, 1) := by decide +kernel
theorem d_Mo_copy_36 : decode b_Mo_copy 36 = .ok (.getfield 42, 3) := by decide +kernel
theorem d_Mo_copy_39 : decode b_Mo_copy 39 = .ok (.iload_n 1, 1) := by decide +kernel
theorem d_Mo_copy_40 : decode b_Mo_copy 40 = .ok (.aload_n 0, 1) := by decide +kernel
theorem d_Mo_copy_41 : decode b_Mo_copy 41 = .ok (.getfield 35, 3) := by decide +kernel
theorem d_Mo_copy_44 : decode b_Mo_copy 44 = .ok (.iload_n 1, 1) := by decide +kernel
theorem d_Mo_copy_45 : decode b_Mo_copy 45 = .ok (.baload, 1) := by decide +kernel
theorem d_Mo_copy_46 : decode b_Mo_copy 46 = .ok (.bastore, 1) := by decide +kernel
theorem d_Mo_copy_47 : decode b_Mo_copy 47 = .ok (.iinc 1 1, 3) := by decide +kernel
theorem d_Mo_copy_50 : decode b_Mo_copy 50 = .ok (.goto (-23), 3) := by decide +kernel
theorem d_Mo_copy_53 : decode b_Mo_copy 53 = .ok (.aload_n 0, 1) := by decide +kernel
theorem d_Mo_copy_54 : decode b_Mo_copy 54 = .ok (.getfield 86, 3) := by decide +kernel
theorem d_Mo_copy_57 : decode b_Mo_copy 57 = .ok (.ireturn, 1) := by decide +kernel
theorem d_Mo_put_0 : decode b_Mo_put 0 = .ok (.aload_n 0, 1) := by decide +kernel
theorem d_Mo_put_1 : decode b_Mo_put 1 = .ok (.iconst 0, 1) := by decide +kernel
theorem d_Mo_put_2 : decode b_Mo_put 2 = .ok (.putfield 45, 3) := by decide +kernel
theorem d_Mo_put_5 : decode b_Mo_put 5 = .ok (.iload_n 1, 1) := by decide +kernel
theorem d_Mo_put_6 : decode b_Mo_put 6 = .ok (.ifCond .lt 18, 3) := by decide +kernel
theorem d_Mo_put_9 : decode b_Mo_put 9 = .ok (.iload_n 1, 1) := by decide +kernel
theorem d_Mo_put_10 : decode b_Mo_put 10 = .ok (.aload_n 0, 1) := by decide +kernel
theorem d_Mo_put_11 : decode b_Mo_put 11 = .ok (.getfield 86, 3) := by decide +kernel
theorem d_Mo_put_14 : decode b_Mo_put 14 = .ok (.if_icmp .gt 10, 3) := by decide +kernel
theorem d_Mo_put_17 : decode b_Mo_put 17 = .ok (.iload_n 1, 1) := by decide +kernel
theorem d_Mo_put_18 : decode b_Mo_put 18 = .ok (.sipush 8192, 3) := by decide +kernel
theorem d_Mo_put_21 : decode b_Mo_put 21 = .ok (.if_icmp .ne 5, 3) := by decide +kernel
theorem d_Mo_put_24 : decode b_Mo_put 24 = .ok (.iconst 0, 1) := by decide +kernel
theorem d_Mo_put_25 : decode b_Mo_put 25 = .ok (.ireturn, 1) := by decide +kernel
theorem d_Mo_put_26 : decode b_Mo_put 26 = .ok (.aload_n 0, 1) := by decide +kernel
theorem d_Mo_put_27 : decode b_Mo_put 27 = .ok (.getfield 42, 3) := by decide +kernel
theorem d_Mo_put_30 : decode b_Mo_put 30 = .ok (.iload_n 1, 1) := by decide +kernel
theorem d_Mo_put_31 : decode b_Mo_put 31 = .ok (.iload_n 2, 1) := by decide +kernel
theorem d_Mo_put_32 : decode b_Mo_put 32 = .ok (.i2b, 1) := by decide +kernel
theorem d_Mo_put_33 : decode b_Mo_put 33 = .ok (.bastore, 1) := by decide +kernel
theorem d_Mo_put_34 : decode b_Mo_put 34 = .ok (.aload_n 0, 1) := by decide +kernel
theorem d_Mo_put_35 : decode b_Mo_put 35 = .ok (.iload_n 1, 1) := by decide +kernel
theorem d_Mo_put_36 : decode b_Mo_put 36 = .ok (.aload_n 0, 1) := by decide +kernel
theorem d_Mo_put_37 : decode b_Mo_put 37 = .ok (.getfield 86, 3) := by decide +kernel
theorem d_Mo_put_40 : decode b_Mo_put 40 = .ok (.if_icmp .ne 9, 3) := by decide +kernel
theorem d_Mo_put_43 : decode b_Mo_put 43 = .ok (.iload_n 1, 1) := by decide +kernel
theorem d_Mo_put_44 : decode b_Mo_put 44 = .ok (.iconst 1, 1) := by decide +kernel
theorem d_Mo_put_45 : decode b_Mo_put 45 = .ok (.iadd, 1) := by decide +kernel
theorem d_Mo_put_46 : decode b_Mo_put 46 = .ok (.goto 7, 3) := by decide +kernel
theorem d_Mo_put_49 : decode b_Mo_put 49 = .ok (.aload_n 0, 1) := by decide +kernel
theorem d_Mo_put_50 : decode b_Mo_put 50 = .ok (.getfield 86, 3) := by decide +kernel
theorem d_Mo_put_53 : decode b_Mo_put 53 = .ok (.putfield 86, 3) := by decide +kernel
theorem d_Mo_put_56 : decode b_Mo_put 56 = .ok (.iconst 1, 1) := by decide +kernel
theorem d_Mo_put_57 : decode b_Mo_put 57 = .ok (.ireturn, 1) := by decide +kernel
theorem d_Mo_cut_0 : decode b_Mo_cut 0 = .ok (.aload_n 0, 1) := by decide +kernel
theorem d_Mo_cut_1 : decode b_Mo_cut 1 = .ok (.iconst 0, 1) := by decide +kernel
theorem d_Mo_cut_2 : decode b_Mo_cut 2 = .ok (.putfield 45, 3) := by decide +kernel
theorem d_Mo_cut_5 : decode b_Mo_cut 5 = .ok (.iload_n 1, 1) := by decide +kernel
theorem d_Mo_cut_6 : decode b_Mo_cut 6 = .ok (.ifCond .lt 11, 3) := by decide +kernel
theorem d_Mo_cut_9 : decode b_Mo_cut 9 = .ok (.iload_n 1, 1) := by decide +kernel
theorem d_Mo_cut_10 : decode b_Mo_cut 10 = .ok (.aload_n 0, 1) := by decide +kernel
theorem d_Mo_cut_11 : decode b_Mo_cut 11 = .ok (.getfield 86, 3) := by decide +kernel
theorem d_Mo_cut_14 : decode b_Mo_cut 14 = .ok (.if_icmp .le 5, 3) := by decide +kernel
theorem d_Mo_cut_17 : decode b_Mo_cut 17 = .ok (.iconst 0, 1) := by decide +kernel
theorem d_Mo_cut_18 : decode b_Mo_cut 18 = .ok (.ireturn, 1) := by decide +kernel
theorem d_Mo_cut_19 : decode b_Mo_cut 19 = .ok (.aload_n 0, 1) := by decide +kernel
theorem d_Mo_cut_20 : decode b_Mo_cut 20 = .ok (.iload_n 1, 1) := by decide +kernel
theorem d_Mo_cut_21 : decode b_Mo_cut 21 = .ok (.putfield 86, 3) := by decide +kernel
theorem d_Mo_cut_24 : decode b_Mo_cut 24 = .ok (.iconst 1, 1) := by decide +kernel
theorem d_Mo_cut_25 : decode b_Mo_cut 25 = .ok (.ireturn, 1) := by decide +kernel
theorem d_Mo_twoAt_0 : decode b_Mo_twoAt 0 = .ok (.aload_n 0, 1) := by decide +kernel
theorem d_Mo_twoAt_1 : decode b_Mo_twoAt 1 = .ok (.getfield 42, 3) := by decide +kernel
theorem d_Mo_twoAt_4 : decode b_Mo_twoAt 4 = .ok (.iload_n 1, 1) := by decide +kernel
theorem d_Mo_twoAt_5 : decode b_Mo_twoAt 5 = .ok (.baload, 1) := by decide +kernel
theorem d_Mo_twoAt_6 : decode b_Mo_twoAt 6 = .ok (.sipush 255, 3) := by decide +kernel
theorem d_Mo_twoAt_9 : decode b_Mo_twoAt 9 = .ok (.iand, 1) := by decide +kernel
theorem d_Mo_twoAt_10 : decode b_Mo_twoAt 10 = .ok (.aload_n 0, 1) := by decide +kernel
theorem d_Mo_twoAt_11 : decode b_Mo_twoAt 11 = .ok (.getfield 42, 3) := by decide +kernel
theorem d_Mo_twoAt_14 : decode b_Mo_twoAt 14 = .ok (.iload_n 1, 1) := by decide +kernel
theorem d_Mo_twoAt_15 : decode b_Mo_twoAt 15 = .ok (.iconst 1, 1) := by decide +kernel
theorem d_Mo_twoAt_16 : decode b_Mo_twoAt 16 = .ok (.iadd, 1) := by decide +kernel
theorem d_Mo_twoAt_17 : decode b_Mo_twoAt 17 = .ok (.baload, 1) := by decide +kernel
theorem d_Mo_twoAt_18 : decode b_Mo_twoAt 18 = .ok (.sipush 255, 3) := by decide +kernel
theorem d_Mo_twoAt_21 : decode b_Mo_twoAt 21 = .ok (.iand, 1) := by decide +kernel
theorem d_Mo_twoAt_22 : decode b_Mo_twoAt 22 = .ok (.bipush 8, 2) := by decide +kernel
theorem d_Mo_twoAt_24 : decode b_Mo_twoAt 24 = .ok (.ishl, 1) := by decide +kernel
theorem d_Mo_twoAt_25 : decode b_Mo_twoAt 25 = .ok (.ior, 1) := by decide +kernel
theorem d_Mo_twoAt_26 : decode b_Mo_twoAt 26 = .ok (.ireturn, 1) := by decide +kernel
theorem d_Mo_fourAt_0 : decode b_Mo_fourAt 0 = .ok (.aload_n 0, 1) := by decide +kernel
theorem d_Mo_fourAt_1 : decode b_Mo_fourAt 1 = .ok (.iload_n 1, 1) := by decide +kernel
theorem d_Mo_fourAt_2 : decode b_Mo_fourAt 2 = .ok (.invokevirtual 89, 3) := by decide +kernel
theorem d_Mo_fourAt_5 : decode b_Mo_fourAt 5 = .ok (.aload_n 0, 1) := by decide +kernel
theorem d_Mo_fourAt_6 : decode b_Mo_fourAt 6 = .ok (.iload_n 1, 1) := by decide +kernel
theorem d_Mo_fourAt_7 : decode b_Mo_fourAt 7 = .ok (.iconst 2, 1) := by decide +kernel
theorem d_Mo_fourAt_8 : decode b_Mo_fourAt 8 = .ok (.iadd, 1) := by decide +kernel
theorem d_Mo_fourAt_9 : decode b_Mo_fourAt 9 = .ok (.invokevirtual 89, 3) := by decide +kernel
theorem d_Mo_fourAt_12 : decode b_Mo_fourAt 12 = .ok (.bipush 16, 2) := by decide +kernel
theorem d_Mo_fourAt_14 : decode b_Mo_fourAt 14 = .ok (.ishl, 1) := by decide +kernel
theorem d_Mo_fourAt_15 : decode b_Mo_fourAt 15 = .ok (.ior, 1) := by decide +kernel
theorem d_Mo_fourAt_16 : decode b_Mo_fourAt 16 = .ok (.ireturn, 1) := by decide +kernel
theorem d_Mo_isWrong_0 : decode b_Mo_isWrong 0 = .ok (.aload_n 0, 1) := by decide +kernel
theorem d_Mo_isWrong_1 : decode b_Mo_isWrong 1 = .ok (.iload_n 1, 1) := by decide +kernel
theorem d_Mo_isWrong_2 : decode b_Mo_isWrong 2 = .ok (.putfield 92, 3) := by decide +kernel
theorem d_Mo_isWrong_5 : decode b_Mo_isWrong 5 = .ok (.aload_n 0, 1) := by decide +kernel
theorem d_Mo_isWrong_6 : decode b_Mo_isWrong 6 = .ok (.iload_n 2, 1) := by decide +kernel
theorem d_Mo_isWrong_7 : decode b_Mo_isWrong 7 = .ok (.putfield 95, 3) := by decide +kernel
theorem d_Mo_isWrong_10 : decode b_Mo_isWrong 10 = .ok (.iconst 0, 1) := by decide +kernel
theorem d_Mo_isWrong_11 : decode b_Mo_isWrong 11 = .ok (.ireturn, 1) := by decide +kernel
theorem d_Mo_headerByte_0 : decode b_Mo_headerByte 0 = .ok (.iload_n 0, 1) := by decide +kernel
theorem d_Mo_headerByte_1 : decode b_Mo_headerByte 1 = .ok (.tableswitch 212 0 42 #[187, 190, 193, 196, 199, 199, 199, 212, 212, 212, 212, 212, 212, 212, 212, 212, 201, 212, 203, 212, 199, 212, 212, 212, 212, 212, 212, 212, 206, 212, 212, 212, 212, 212, 212, 212, 212, 212, 212, 212, 206, 212, 209], 187) := by decide +kernel
theorem d_Mo_headerByte_188 : decode b_Mo_headerByte 188 = .ok (.bipush 127, 2) := by decide +kernel
theorem d_Mo_headerByte_190 : decode b_Mo_headerByte 190 = .ok (.ireturn, 1) := by decide +kernel
theorem d_Mo_headerByte_191 : decode b_Mo_headerByte 191 = .ok (.bipush 69, 2) := by decide +kernel
theorem d_Mo_headerByte_193 : decode b_Mo_headerByte 193 = .ok (.ireturn, 1) := by decide +kernel
theorem d_Mo_headerByte_194 : decode b_Mo_headerByte 194 = .ok (.bipush 76, 2) := by decide +kernel
theorem d_Mo_headerByte_196 : decode b_Mo_headerByte 196 = .ok (.ireturn, 1) := by decide +kernel
theorem d_Mo_headerByte_197 : decode b_Mo_headerByte 197 = .ok (.bipush 70, 2) := by decide +kernel
theorem d_Mo_headerByte_199 : decode b_Mo_headerByte 199 = .ok (.ireturn, 1) := by decide +kernel
theorem d_Mo_headerByte_200 : decode b_Mo_headerByte 200 = .ok (.iconst 1, 1) := by decide +kernel
theorem d_Mo_headerByte_201 : decode b_Mo_headerByte 201 = .ok (.ireturn, 1) := by decide +kernel
theorem d_Mo_headerByte_202 : decode b_Mo_headerByte 202 = .ok (.iconst 4, 1) := by decide +kernel
theorem d_Mo_headerByte_203 : decode b_Mo_headerByte 203 = .ok (.ireturn, 1) := by decide +kernel
theorem d_Mo_headerByte_204 : decode b_Mo_headerByte 204 = .ok (.bipush 8, 2) := by decide +kernel
theorem d_Mo_headerByte_206 : decode b_Mo_headerByte 206 = .ok (.ireturn, 1) := by decide +kernel
theorem d_Mo_headerByte_207 : decode b_Mo_headerByte 207 = .ok (.bipush 52, 2) := by decide +kernel
theorem d_Mo_headerByte_209 : decode b_Mo_headerByte 209 = .ok (.ireturn, 1) := by decide +kernel
theorem d_Mo_headerByte_210 : decode b_Mo_headerByte 210 = .ok (.bipush 32, 2) := by decide +kernel
theorem d_Mo_headerByte_212 : decode b_Mo_headerByte 212 = .ok (.ireturn, 1) := by decide +kernel
theorem d_Mo_headerByte_213 : decode b_Mo_headerByte 213 = .ok (.iconst 0, 1) := by decide +kernel
theorem d_Mo_headerByte_214 : decode b_Mo_headerByte 214 = .ok (.ireturn, 1) := by decide +kernel
theorem d_Mo_fieldOf_0 : decode b_Mo_fieldOf 0 = .ok (.iload_n 0, 1) := by decide +kernel
theorem d_Mo_fieldOf_1 : decode b_Mo_fieldOf 1 = .ok (.bipush 16, 2) := by decide +kernel
theorem d_Mo_fieldOf_3 : decode b_Mo_fieldOf 3 = .ok (.if_icmp .ge 7, 3) := by decide +kernel
theorem d_Mo_fieldOf_6 : decode b_Mo_fieldOf 6 = .ok (.iload_n 0, 1) := by decide +kernel
theorem d_Mo_fieldOf_7 : decode b_Mo_fieldOf 7 = .ok (.goto 36, 3) := by decide +kernel
theorem d_Mo_fieldOf_10 : decode b_Mo_fieldOf 10 = .ok (.iload_n 0, 1) := by decide +kernel
theorem d_Mo_fieldOf_11 : decode b_Mo_fieldOf 11 = .ok (.bipush 20, 2) := by decide +kernel
theorem d_Mo_fieldOf_13 : decode b_Mo_fieldOf 13 = .ok (.if_icmp .ge 11, 3) := by decide +kernel
theorem d_Mo_fieldOf_16 : decode b_Mo_fieldOf 16 = .ok (.iload_n 0, 1) := by decide +kernel
theorem d_Mo_fieldOf_17 : decode b_Mo_fieldOf 17 = .ok (.iload_n 0, 1) := by decide +kernel
theorem d_Mo_fieldOf_18 : decode b_Mo_fieldOf 18 = .ok (.iconst 2, 1) := by decide +kernel
theorem d_Mo_fieldOf_19 : decode b_Mo_fieldOf 19 = .ok (.irem, 1) := by decide +kernel
theorem d_Mo_fieldOf_20 : decode b_Mo_fieldOf 20 = .ok (.isub, 1) := by decide +kernel
theorem d_Mo_fieldOf_21 : decode b_Mo_fieldOf 21 = .ok (.goto 22, 3) := by decide +kernel
theorem d_Mo_fieldOf_24 : decode b_Mo_fieldOf 24 = .ok (.iload_n 0, 1) := by decide +kernel
theorem d_Mo_fieldOf_25 : decode b_Mo_fieldOf 25 = .ok (.bipush 40, 2) := by decide +kernel
theorem d_Mo_fieldOf_27 : decode b_Mo_fieldOf 27 = .ok (.if_icmp .ge 11, 3) := by decide +kernel
theorem d_Mo_fieldOf_30 : decode b_Mo_fieldOf 30 = .ok (.iload_n 0, 1) := by decide +kernel
theorem d_Mo_fieldOf_31 : decode b_Mo_fieldOf 31 = .ok (.iload_n 0, 1) := by decide +kernel
theorem d_Mo_fieldOf_32 : decode b_Mo_fieldOf 32 = .ok (.iconst 4, 1) := by decide +kernel
theorem d_Mo_fieldOf_33 : decode b_Mo_fieldOf 33 = .ok (.irem, 1) := by decide +kernel
theorem d_Mo_fieldOf_34 : decode b_Mo_fieldOf 34 = .ok (.isub, 1) := by decide +kernel
theorem d_Mo_fieldOf_35 : decode b_Mo_fieldOf 35 = .ok (.goto 8, 3) := by decide +kernel
theorem d_Mo_fieldOf_38 : decode b_Mo_fieldOf 38 = .ok (.iload_n 0, 1) := by decide +kernel
theorem d_Mo_fieldOf_39 : decode b_Mo_fieldOf 39 = .ok (.iload_n 0, 1) := by decide +kernel
theorem d_Mo_fieldOf_40 : decode b_Mo_fieldOf 40 = .ok (.iconst 2, 1) := by decide +kernel
theorem d_Mo_fieldOf_41 : decode b_Mo_fieldOf 41 = .ok (.irem, 1) := by decide +kernel
theorem d_Mo_fieldOf_42 : decode b_Mo_fieldOf 42 = .ok (.isub, 1) := by decide +kernel
theorem d_Mo_fieldOf_43 : decode b_Mo_fieldOf 43 = .ok (.ireturn, 1) := by decide +kernel
theorem d_Mo_headerFits_0 : decode b_Mo_headerFits 0 = .ok (.aload_n 0, 1) := by decide +kernel
theorem d_Mo_headerFits_1 : decode b_Mo_headerFits 1 = .ok (.getfield 86, 3) := by decide +kernel
theorem d_Mo_headerFits_4 : decode b_Mo_headerFits 4 = .ok (.bipush 52, 2) := by decide +kernel
theorem d_Mo_headerFits_6 : decode b_Mo_headerFits 6 = .ok (.if_icmp .ge 13, 3) := by decide +kernel
theorem d_Mo_headerFits_9 : decode b_Mo_headerFits 9 = .ok (.aload_n 0, 1) := by decide +kernel
theorem d_Mo_headerFits_10 : decode b_Mo_headerFits 10 = .ok (.iconst 1, 1) := by decide +kernel
theorem d_Mo_headerFits_11 : decode b_Mo_headerFits 11 = .ok (.aload_n 0, 1) := by decide +kernel
theorem d_Mo_headerFits_12 : decode b_Mo_headerFits 12 = .ok (.getfield 86, 3) := by decide +kernel
theorem d_Mo_headerFits_15 : decode b_Mo_headerFits 15 = .ok (.invokevirtual 98, 3) := by decide +kernel
theorem d_Mo_headerFits_18 : decode b_Mo_headerFits 18 = .ok (.ireturn, 1) := by decide +kernel
theorem d_Mo_headerFits_19 : decode b_Mo_headerFits 19 = .ok (.iconst 0, 1) := by decide +kernel
theorem d_Mo_headerFits_20 : decode b_Mo_headerFits 20 = .ok (.istore_n 1, 1) := by decide +kernel
theorem d_Mo_headerFits_21 : decode b_Mo_headerFits 21 = .ok (.iload_n 1, 1) := by decide +kernel
theorem d_Mo_headerFits_22 : decode b_Mo_headerFits 22 = .ok (.bipush 52, 2) := by decide +kernel
theorem d_Mo_headerFits_24 : decode b_Mo_headerFits 24 = .ok (.if_icmp .ge 85, 3) := by decide +kernel
theorem d_Mo_headerFits_27 : decode b_Mo_headerFits 27 = .ok (.iload_n 1, 1) := by decide +kernel
theorem d_Mo_headerFits_28 : decode b_Mo_headerFits 28 = .ok (.bipush 44, 2) := by decide +kernel
theorem d_Mo_headerFits_30 : decode b_Mo_headerFits 30 = .ok (.if_icmp .eq 9, 3) := by decide +kernel
theorem d_Mo_headerFits_33 : decode b_Mo_headerFits 33 = .ok (.iload_n 1, 1) := by decide +kernel
theorem d_Mo_headerFits_34 : decode b_Mo_headerFits 34 = .ok (.bipush 45, 2) := by decide +kernel
theorem d_Mo_headerFits_36 : decode b_Mo_headerFits 36 = .ok (.if_icmp .ne 7, 3) := by decide +kernel
theorem d_Mo_headerFits_39 : decode b_Mo_headerFits 39 = .ok (.iconst 1, 1) := by decide +kernel
theorem d_Mo_headerFits_40 : decode b_Mo_headerFits 40 = .ok (.goto 4, 3) := by decide +kernel
theorem d_Mo_headerFits_43 : decode b_Mo_headerFits 43 = .ok (.iconst 0, 1) := by decide +kernel
theorem d_Mo_headerFits_44 : decode b_Mo_headerFits 44 = .ok (.istore_n 2, 1) := by decide +kernel
theorem d_Mo_headerFits_45 : decode b_Mo_headerFits 45 = .ok (.iload_n 2, 1) := by decide +kernel
theorem d_Mo_headerFits_46 : decode b_Mo_headerFits 46 = .ok (.ifCond .ne 20, 3) := by decide +kernel
theorem d_Mo_headerFits_49 : decode b_Mo_headerFits 49 = .ok (.aload_n 0, 1) := by decide +kernel
theorem d_Mo_headerFits_50 : decode b_Mo_headerFits 50 = .ok (.getfield 42, 3) := by decide +kernel
theorem d_Mo_headerFits_53 : decode b_Mo_headerFits 53 = .ok (.iload_n 1, 1) := by decide +kernel
theorem d_Mo_headerFits_54 : decode b_Mo_headerFits 54 = .ok (.baload, 1) := by decide +kernel
theorem d_Mo_headerFits_55 : decode b_Mo_headerFits 55 = .ok (.sipush 255, 3) := by decide +kernel
theorem d_Mo_headerFits_58 : decode b_Mo_headerFits 58 = .ok (.iand, 1) := by decide +kernel
theorem d_Mo_headerFits_59 : decode b_Mo_headerFits 59 = .ok (.iload_n 1, 1) := by decide +kernel
theorem d_Mo_headerFits_60 : decode b_Mo_headerFits 60 = .ok (.invokestatic 101, 3) := by decide +kernel
theorem d_Mo_headerFits_63 : decode b_Mo_headerFits 63 = .ok (.if_icmp .ne 30, 3) := by decide +kernel
theorem d_Mo_headerFits_66 : decode b_Mo_headerFits 66 = .ok (.iload_n 1, 1) := by decide +kernel
theorem d_Mo_headerFits_67 : decode b_Mo_headerFits 67 = .ok (.bipush 44, 2) := by decide +kernel
theorem d_Mo_headerFits_69 : decode b_Mo_headerFits 69 = .ok (.if_icmp .ne 34, 3) := by decide +kernel
theorem d_Mo_headerFits_72 : decode b_Mo_headerFits 72 = .ok (.aload_n 0, 1) := by decide +kernel
theorem d_Mo_headerFits_73 : decode b_Mo_headerFits 73 = .ok (.bipush 44, 2) := by decide +kernel
theorem d_Mo_headerFits_75 : decode b_Mo_headerFits 75 = .ok (.invokevirtual 89, 3) := by decide +kernel
theorem d_Mo_headerFits_78 : decode b_Mo_headerFits 78 = .ok (.iconst 1, 1) := by decide +kernel
theorem d_Mo_headerFits_79 : decode b_Mo_headerFits 79 = .ok (.if_icmp .lt 14, 3) := by decide +kernel
theorem d_Mo_headerFits_82 : decode b_Mo_headerFits 82 = .ok (.aload_n 0, 1) := by decide +kernel
theorem d_Mo_headerFits_83 : decode b_Mo_headerFits 83 = .ok (.bipush 44, 2) := by decide +kernel
theorem d_Mo_headerFits_85 : decode b_Mo_headerFits 85 = .ok (.invokevirtual 89, 3) := by decide +kernel
theorem d_Mo_headerFits_88 : decode b_Mo_headerFits 88 = .ok (.bipush 7, 2) := by decide +kernel
theorem d_Mo_headerFits_90 : decode b_Mo_headerFits 90 = .ok (.if_icmp .le 13, 3) := by decide +kernel
theorem d_Mo_headerFits_93 : decode b_Mo_headerFits 93 = .ok (.aload_n 0, 1) := by decide +kernel
theorem d_Mo_headerFits_94 : decode b_Mo_headerFits 94 = .ok (.iconst 2, 1) := by decide +kernel
theorem d_Mo_headerFits_95 : decode b_Mo_headerFits 95 = .ok (.iload_n 1, 1) := by decide +kernel
theorem d_Mo_headerFits_96 : decode b_Mo_headerFits 96 = .ok (.invokestatic 104, 3) := by decide +kernel
theorem d_Mo_headerFits_99 : decode b_Mo_headerFits 99 = .ok (.invokevirtual 98, 3) := by decide +kernel
theorem d_Mo_headerFits_102 : decode b_Mo_headerFits 102 = .ok (.ireturn, 1) := by decide +kernel
theorem d_Mo_headerFits_103 : decode b_Mo_headerFits 103 = .ok (.iinc 1 1, 3) := by decide +kernel
theorem d_Mo_headerFits_106 : decode b_Mo_headerFits 106 = .ok (.goto (-85), 3) := by decide +kernel
theorem d_Mo_headerFits_109 : decode b_Mo_headerFits 109 = .ok (.bipush 52, 2) := by decide +kernel
theorem d_Mo_headerFits_111 : decode b_Mo_headerFits 111 = .ok (.bipush 32, 2) := by decide +kernel
theorem d_Mo_headerFits_113 : decode b_Mo_headerFits 113 = .ok (.aload_n 0, 1) := by decide +kernel
theorem d_Mo_headerFits_114 : decode b_Mo_headerFits 114 = .ok (.bipush 44, 2) := by decide +kernel
theorem d_Mo_headerFits_116 : decode b_Mo_headerFits 116 = .ok (.invokevirtual 89, 3) := by decide +kernel
theorem d_Mo_headerFits_119 : decode b_Mo_headerFits 119 = .ok (.imul, 1) := by decide +kernel
theorem d_Mo_headerFits_120 : decode b_Mo_headerFits 120 = .ok (.iadd, 1) := by decide +kernel
theorem d_Mo_headerFits_121 : decode b_Mo_headerFits 121 = .ok (.aload_n 0, 1) := by decide +kernel
theorem d_Mo_headerFits_122 : decode b_Mo_headerFits 122 = .ok (.getfield 86, 3) := by decide +kernel
theorem d_Mo_headerFits_125 : decode b_Mo_headerFits 125 = .ok (.if_icmp .le 15, 3) := by decide +kernel
theorem d_Mo_headerFits_128 : decode b_Mo_headerFits 128 = .ok (.aload_n 0, 1) := by decide +kernel
theorem d_Mo_headerFits_129 : decode b_Mo_headerFits 129 = .ok (.iconst 1, 1) := by decide +kernel
theorem d_Mo_headerFits_130 : decode b_Mo_headerFits 130 = .ok (.aload_n 0, 1) := by decide +kernel
theorem d_Mo_headerFits_131 : decode b_Mo_headerFits 131 = .ok (.getfield 86, 3) := by decide +kernel
theorem d_Mo_headerFits_134 : decode b_Mo_headerFits 134 = .ok (.invokevirtual 98, 3) := by decide +kernel
theorem d_Mo_headerFits_137 : decode b_Mo_headerFits 137 = .ok (.ifCond .eq 7, 3) := by decide +kernel
theorem d_Mo_headerFits_140 : decode b_Mo_headerFits 140 = .ok (.iconst 1, 1) := by decide +kernel
theorem d_Mo_headerFits_141 : decode b_Mo_headerFits 141 = .ok (.goto 4, 3) := by decide +kernel
theorem d_Mo_headerFits_144 : decode b_Mo_headerFits 144 = .ok (.iconst 0, 1) := by decide +kernel
theorem d_Mo_headerFits_145 : decode b_Mo_headerFits 145 = .ok (.ireturn, 1) := by decide +kernel
theorem d_Mo_badField_0 : decode b_Mo_badField 0 = .ok (.aload_n 0, 1) := by decide +kernel
theorem d_Mo_badField_1 : decode b_Mo_badField 1 = .ok (.iload_n 1, 1) := by decide +kernel
theorem d_Mo_badField_2 : decode b_Mo_badField 2 = .ok (.bipush 8, 2) := by decide +kernel
theorem d_Mo_badField_4 : decode b_Mo_badField 4 = .ok (.iadd, 1) := by decide +kernel
theorem d_Mo_badField_5 : decode b_Mo_badField 5 = .ok (.invokevirtual 107, 3) := by decide +kernel
theorem d_Mo_badField_8 : decode b_Mo_badField 8 = .ok (.istore 4, 2) := by decide +kernel
theorem d_Mo_badField_10 : decode b_Mo_badField 10 = .ok (.aload_n 0, 1) := by decide +kernel
theorem d_Mo_badField_11 : decode b_Mo_badField 11 = .ok (.iload_n 1, 1) := by decide +kernel
theorem d_Mo_badField_12 : decode b_Mo_badField 12 = .ok (.bipush 16, 2) := by decide +kernel
theorem d_Mo_badField_14 : decode b_Mo_badField 14 = .ok (.iadd, 1) := by decide +kernel
theorem d_Mo_badField_15 : decode b_Mo_badField 15 = .ok (.invokevirtual 107, 3) := by decide +kernel
theorem d_Mo_badField_18 : decode b_Mo_badField 18 = .ok (.istore 5, 2) := by decide +kernel
theorem d_Mo_badField_20 : decode b_Mo_badField 20 = .ok (.aload_n 0, 1) := by decide +kernel
theorem d_Mo_badField_21 : decode b_Mo_badField 21 = .ok (.iload_n 1, 1) := by decide +kernel
theorem d_Mo_badField_22 : decode b_Mo_badField 22 = .ok (.bipush 20, 2) := by decide +kernel
theorem d_Mo_badField_24 : decode b_Mo_badField 24 = .ok (.iadd, 1) := by decide +kernel
theorem d_Mo_badField_25 : decode b_Mo_badField 25 = .ok (.invokevirtual 107, 3) := by decide +kernel
theorem d_Mo_badField_28 : decode b_Mo_badField 28 = .ok (.istore 6, 2) := by decide +kernel
theorem d_Mo_badField_30 : decode b_Mo_badField 30 = .ok (.aload_n 0, 1) := by decide +kernel
theorem d_Mo_badField_31 : decode b_Mo_badField 31 = .ok (.iload_n 1, 1) := by decide +kernel
theorem d_Mo_badField_32 : decode b_Mo_badField 32 = .ok (.bipush 24, 2) := by decide +kernel
theorem d_Mo_badField_34 : decode b_Mo_badField 34 = .ok (.iadd, 1) := by decide +kernel
theorem d_Mo_badField_35 : decode b_Mo_badField 35 = .ok (.invokevirtual 107, 3) := by decide +kernel
theorem d_Mo_badField_38 : decode b_Mo_badField 38 = .ok (.istore 7, 2) := by decide +kernel
theorem d_Mo_badField_40 : decode b_Mo_badField 40 = .ok (.aload_n 0, 1) := by decide +kernel
theorem d_Mo_badField_41 : decode b_Mo_badField 41 = .ok (.iload_n 1, 1) := by decide +kernel
theorem d_Mo_badField_42 : decode b_Mo_badField 42 = .ok (.invokevirtual 107, 3) := by decide +kernel
theorem d_Mo_badField_45 : decode b_Mo_badField 45 = .ok (.iload_n 2, 1) := by decide +kernel
theorem d_Mo_badField_46 : decode b_Mo_badField 46 = .ok (.ifCond .eq 7, 3) := by decide +kernel
theorem d_Mo_badField_49 : decode b_Mo_badField 49 = .ok (.iconst 4, 1) := by decide +kernel
theorem d_Mo_badField_50 : decode b_Mo_badField 50 = .ok (.goto 4, 3) := by decide +kernel
theorem d_Mo_badField_53 : decode b_Mo_badField 53 = .ok (.iconst 1, 1) := by decide +kernel
theorem d_Mo_badField_54 : decode b_Mo_badField 54 = .ok (.if_icmp .eq 5, 3) := by decide +kernel
theorem d_Mo_badField_57 : decode b_Mo_badField 57 = .ok (.iconst 0, 1) := by decide +kernel
theorem d_Mo_badField_58 : decode b_Mo_badField 58 = .ok (.ireturn, 1) := by decide +kernel
theorem d_Mo_badField_59 : decode b_Mo_badField 59 = .ok (.aload_n 0, 1) := by decide +kernel
theorem d_Mo_badField_60 : decode b_Mo_badField 60 = .ok (.iload_n 1, 1) := by decide +kernel
theorem d_Mo_badField_61 : decode b_Mo_badField 61 = .ok (.iconst 4, 1) := by decide +kernel
theorem d_Mo_badField_62 : decode b_Mo_badField 62 = .ok (.iadd, 1) := by decide +kernel
theorem d_Mo_badField_63 : decode b_Mo_badField 63 = .ok (.invokevirtual 107, 3) := by decide +kernel
theorem d_Mo_badField_66 : decode b_Mo_badField 66 = .ok (.iload_n 3, 1) := by decide +kernel
theorem d_Mo_badField_67 : decode b_Mo_badField 67 = .ok (.if_icmp .ge 5, 3) := by decide +kernel
theorem d_Mo_badField_70 : decode b_Mo_badField 70 = .ok (.iconst 1, 1) := by decide +kernel
theorem d_Mo_badField_71 : decode b_Mo_badField 71 = .ok (.ireturn, 1) := by decide +kernel
theorem d_Mo_badField_72 : decode b_Mo_badField 72 = .ok (.iload_n 2, 1) := by decide +kernel
theorem d_Mo_badField_73 : decode b_Mo_badField 73 = .ok (.ifCond .eq 11, 3) := by decide +kernel
theorem d_Mo_badField_76 : decode b_Mo_badField 76 = .ok (.iload 4, 2) := by decide +kernel
theorem d_Mo_badField_78 : decode b_Mo_badField 78 = .ok (.ifCond .eq 21, 3) := by decide +kernel
theorem d_Mo_badField_81 : decode b_Mo_badField 81 = .ok (.goto 16, 3) := by decide +kernel
theorem d_Mo_badField_84 : decode b_Mo_badField 84 = .ok (.iload 4, 2) := by decide +kernel
theorem d_Mo_badField_86 : decode b_Mo_badField 86 = .ok (.ifCond .lt 11, 3) := by decide +kernel
theorem d_Mo_badField_89 : decode b_Mo_badField 89 = .ok (.iload 4, 2) := by decide +kernel
theorem d_Mo_badField_91 : decode b_Mo_badField 91 = .ok (.bipush 64, 2) := by decide +kernel
theorem d_Mo_badField_93 : decode b_Mo_badField 93 = .ok (.irem, 1) := by decide +kernel
theorem d_Mo_badField_94 : decode b_Mo_badField 94 = .ok (.ifCond .eq 5, 3) := by decide +kernel
theorem d_Mo_badField_97 : decode b_Mo_badField 97 = .ok (.iconst 2, 1) := by decide +kernel
theorem d_Mo_badField_98 : decode b_Mo_badField 98 = .ok (.ireturn, 1) := by decide +kernel
theorem d_Mo_badField_99 : decode b_Mo_badField 99 = .ok (.aload_n 0, 1) := by decide +kernel
theorem d_Mo_badField_100 : decode b_Mo_badField 100 = .ok (.iload_n 1, 1) := by decide +kernel
theorem d_Mo_badField_101 : decode b_Mo_badField 101 = .ok (.bipush 12, 2) := by decide +kernel
theorem d_Mo_badField_103 : decode b_Mo_badField 103 = .ok (.iadd, 1) := by decide +kernel
theorem d_Mo_badField_104 : decode b_Mo_badField 104 = .ok (.invokevirtual 107, 3) := by decide +kernel
theorem d_Mo_badField_107 : decode b_Mo_badField 107 = .ok (.ifCond .eq 5, 3) := by decide +kernel
theorem d_Mo_badField_110 : decode b_Mo_badField 110 = .ok (.iconst 3, 1) := by decide +kernel
theorem d_Mo_badField_111 : decode b_Mo_badField 111 = .ok (.ireturn, 1) := by decide +kernel
theorem d_Mo_badField_112 : decode b_Mo_badField 112 = .ok (.iload 5, 2) := by decide +kernel
theorem d_Mo_badField_114 : decode b_Mo_badField 114 = .ok (.ifCond .lt 23, 3) := by decide +kernel
theorem d_Mo_badField_117 : decode b_Mo_badField 117 = .ok (.iload_n 2, 1) := by decide +kernel
theorem d_Mo_badField_118 : decode b_Mo_badField 118 = .ok (.ifCond .ne 21, 3) := by decide +kernel
theorem d_Mo_badField_121 : decode b_Mo_badField 121 = .ok (.iload 5, 2) := by decide +kernel
theorem d_Mo_badField_123 : decode b_Mo_badField 123 = .ok (.bipush 64, 2) := by decide +kernel
theorem d_Mo_badField_125 : decode b_Mo_badField 125 = .ok (.irem, 1) := by decide +kernel
theorem d_Mo_badField_126 : decode b_Mo_badField 126 = .ok (.ifCond .ne 11, 3) := by decide +kernel
theorem d_Mo_badField_129 : decode b_Mo_badField 129 = .ok (.iload 5, 2) := by decide +kernel
theorem d_Mo_badField_131 : decode b_Mo_badField 131 = .ok (.sipush 1024, 3) := by decide +kernel
theorem d_Mo_badField_134 : decode b_Mo_badField 134 = .ok (.if_icmp .le 5, 3) := by decide +kernel
theorem d_Mo_badField_137 : decode b_Mo_badField 137 = .ok (.iconst 4, 1) := by decide +kernel
theorem d_Mo_badField_138 : decode b_Mo_badField 138 = .ok (.ireturn, 1) := by decide +kernel
theorem d_Mo_badField_139 : decode b_Mo_badField 139 = .ok (.iload_n 2, 1) := by decide +kernel
theorem d_Mo_badField_140 : decode b_Mo_badField 140 = .ok (.ifCond .eq 13, 3) := by decide +kernel
theorem d_Mo_badField_143 : decode b_Mo_badField 143 = .ok (.iload 6, 2) := by decide +kernel
theorem d_Mo_badField_145 : decode b_Mo_badField 145 = .ok (.iload 5, 2) := by decide +kernel
theorem d_Mo_badField_147 : decode b_Mo_badField 147 = .ok (.if_icmp .eq 52, 3) := by decide +kernel
theorem d_Mo_badField_150 : decode b_Mo_badField 150 = .ok (.goto 47, 3) := by decide +kernel
theorem d_Mo_badField_153 : decode b_Mo_badField 153 = .ok (.iload 6, 2) := by decide +kernel
theorem d_Mo_badField_155 : decode b_Mo_badField 155 = .ok (.bipush 64, 2) := by decide +kernel
theorem d_Mo_badField_157 : decode b_Mo_badField 157 = .ok (.irem, 1) := by decide +kernel
theorem d_Mo_badField_158 : decode b_Mo_badField 158 = .ok (.ifCond .ne 39, 3) := by decide +kernel
theorem d_Mo_badField_161 : decode b_Mo_badField 161 = .ok (.iload 6, 2) := by decide +kernel
theorem d_Mo_badField_163 : decode b_Mo_badField 163 = .ok (.bipush 64, 2) := by decide +kernel
theorem d_Mo_badField_165 : decode b_Mo_badField 165 = .ok (.if_icmp .lt 32, 3) := by decide +kernel
theorem d_Mo_badField_168 : decode b_Mo_badField 168 = .ok (.iload 6, 2) := by decide +kernel
theorem d_Mo_badField_170 : decode b_Mo_badField 170 = .ok (.sipush 1024, 3) := by decide +kernel
theorem d_Mo_badField_173 : decode b_Mo_badField 173 = .ok (.if_icmp .gt 24, 3) := by decide +kernel
theorem d_Mo_badField_176 : decode b_Mo_badField 176 = .ok (.iload 6, 2) := by decide +kernel
theorem d_Mo_badField_178 : decode b_Mo_badField 178 = .ok (.iload 5, 2) := by decide +kernel
theorem d_Mo_badField_180 : decode b_Mo_badField 180 = .ok (.if_icmp .lt 17, 3) := by decide +kernel
theorem d_Mo_badField_183 : decode b_Mo_badField 183 = .ok (.iload 4, 2) := by decide +kernel
theorem d_Mo_badField_185 : decode b_Mo_badField 185 = .ok (.i2l, 1) := by decide +kernel
theorem d_Mo_badField_186 : decode b_Mo_badField 186 = .ok (.iload 6, 2) := by decide +kernel
theorem d_Mo_badField_188 : decode b_Mo_badField 188 = .ok (.i2l, 1) := by decide +kernel
theorem d_Mo_badField_189 : decode b_Mo_badField 189 = .ok (.ladd, 1) := by decide +kernel
theorem d_Mo_badField_190 : decode b_Mo_badField 190 = .ok (.ldc2_w 52, 3) := by decide +kernel
theorem d_Mo_badField_193 : decode b_Mo_badField 193 = .ok (.lcmp, 1) := by decide +kernel
theorem d_Mo_badField_194 : decode b_Mo_badField 194 = .ok (.ifCond .le 5, 3) := by decide +kernel
theorem d_Mo_badField_197 : decode b_Mo_badField 197 = .ok (.iconst 5, 1) := by decide +kernel
theorem d_Mo_badField_198 : decode b_Mo_badField 198 = .ok (.ireturn, 1) := by decide +kernel
theorem d_Mo_badField_199 : decode b_Mo_badField 199 = .ok (.iload_n 2, 1) := by decide +kernel
theorem d_Mo_badField_200 : decode b_Mo_badField 200 = .ok (.ifCond .eq 11, 3) := by decide +kernel
theorem d_Mo_badField_203 : decode b_Mo_badField 203 = .ok (.iload 7, 2) := by decide +kernel
theorem d_Mo_badField_205 : decode b_Mo_badField 205 = .ok (.ifCond .eq 21, 3) := by decide +kernel
theorem d_Mo_badField_208 : decode b_Mo_badField 208 = .ok (.goto 15, 3) := by decide +kernel
theorem d_Mo_badField_211 : decode b_Mo_badField 211 = .ok (.iload 7, 2) := by decide +kernel
theorem d_Mo_badField_213 : decode b_Mo_badField 213 = .ok (.ifCond .lt 10, 3) := by decide +kernel
theorem d_Mo_badField_216 : decode b_Mo_badField 216 = .ok (.iload 7, 2) := by decide +kernel
theorem d_Mo_badField_218 : decode b_Mo_badField 218 = .ok (.bipush 7, 2) := by decide +kernel
theorem d_Mo_badField_220 : decode b_Mo_badField 220 = .ok (.if_icmp .le 6, 3) := by decide +kernel
theorem d_Mo_badField_223 : decode b_Mo_badField 223 = .ok (.bipush 6, 2) := by decide +kernel
theorem d_Mo_badField_225 : decode b_Mo_badField 225 = .ok (.ireturn, 1) := by decide +kernel
theorem d_Mo_badField_226 : decode b_Mo_badField 226 = .ok (.aload_n 0, 1) := by decide +kernel
theorem d_Mo_badField_227 : decode b_Mo_badField 227 = .ok (.iload_n 1, 1) := by decide +kernel
theorem d_Mo_badField_228 : decode b_Mo_badField 228 = .ok (.bipush 28, 2) := by decide +kernel
theorem d_Mo_badField_230 : decode b_Mo_badField 230 = .ok (.iadd, 1) := by decide +kernel
theorem d_Mo_badField_231 : decode b_Mo_badField 231 = .ok (.invokevirtual 107, 3) := by decide +kernel
theorem d_Mo_badField_234 : decode b_Mo_badField 234 = .ok (.iload_n 2, 1) := by decide +kernel
theorem d_Mo_badField_235 : decode b_Mo_badField 235 = .ok (.ifCond .eq 7, 3) := by decide +kernel
theorem d_Mo_badField_238 : decode b_Mo_badField 238 = .ok (.iconst 4, 1) := by decide +kernel
theorem d_Mo_badField_239 : decode b_Mo_badField 239 = .ok (.goto 5, 3) := by decide +kernel
theorem d_Mo_badField_242 : decode b_Mo_badField 242 = .ok (.bipush 64, 2) := by decide +kernel
theorem d_Mo_badField_244 : decode b_Mo_badField 244 = .ok (.if_icmp .eq 8, 3) := by decide +kernel
theorem d_Mo_badField_247 : decode b_Mo_badField 247 = .ok (.bipush 7, 2) := by decide +kernel
theorem d_Mo_badField_249 : decode b_Mo_badField 249 = .ok (.goto 5, 3) := by decide +kernel
theorem d_Mo_badField_252 : decode b_Mo_badField 252 = .ok (.bipush 8, 2) := by decide +kernel
theorem d_Mo_badField_254 : decode b_Mo_badField 254 = .ok (.ireturn, 1) := by decide +kernel
theorem d_Mo_meet_0 : decode b_Mo_meet 0 = .ok (.lload_n 2, 1) := by decide +kernel
theorem d_Mo_meet_1 : decode b_Mo_meet 1 = .ok (.lconst 0, 1) := by decide +kernel
theorem d_Mo_meet_2 : decode b_Mo_meet 2 = .ok (.lcmp, 1) := by decide +kernel
theorem d_Mo_meet_3 : decode b_Mo_meet 3 = .ok (.ifCond .le 33, 3) := by decide +kernel
theorem d_Mo_meet_6 : decode b_Mo_meet 6 = .ok (.lload 6, 2) := by decide +kernel
theorem d_Mo_meet_8 : decode b_Mo_meet 8 = .ok (.lconst 0, 1) := by decide +kernel
theorem d_Mo_meet_9 : decode b_Mo_meet 9 = .ok (.lcmp, 1) := by decide +kernel
theorem d_Mo_meet_10 : decode b_Mo_meet 10 = .ok (.ifCond .le 26, 3) := by decide +kernel
theorem d_Mo_meet_13 : decode b_Mo_meet 13 = .ok (.lload_n 0, 1) := by decide +kernel
theorem d_Mo_meet_14 : decode b_Mo_meet 14 = .ok (.lload 4, 2) := by decide +kernel
theorem d_Mo_meet_16 : decode b_Mo_meet 16 = .ok (.lload 6, 2) := by decide +kernel
theorem d_Mo_meet_18 : decode b_Mo_meet 18 = .ok (.ladd, 1) := by decide +kernel
theorem d_Mo_meet_19 : decode b_Mo_meet 19 = .ok (.lcmp, 1) := by decide +kernel
theorem d_Mo_meet_20 : decode b_Mo_meet 20 = .ok (.ifCond .ge 16, 3) := by decide +kernel
theorem d_Mo_meet_23 : decode b_Mo_meet 23 = .ok (.lload 4, 2) := by decide +kernel
theorem d_Mo_meet_25 : decode b_Mo_meet 25 = .ok (.lload_n 0, 1) := by decide +kernel
theorem d_Mo_meet_26 : decode b_Mo_meet 26 = .ok (.lload_n 2, 1) := by decide +kernel
theorem d_Mo_meet_27 : decode b_Mo_meet 27 = .ok (.ladd, 1) := by decide +kernel
theorem d_Mo_meet_28 : decode b_Mo_meet 28 = .ok (.lcmp, 1) := by decide +kernel
theorem d_Mo_meet_29 : decode b_Mo_meet 29 = .ok (.ifCond .ge 7, 3) := by decide +kernel
theorem d_Mo_meet_32 : decode b_Mo_meet 32 = .ok (.iconst 1, 1) := by decide +kernel
theorem d_Mo_meet_33 : decode b_Mo_meet 33 = .ok (.goto 4, 3) := by decide +kernel
theorem d_Mo_meet_36 : decode b_Mo_meet 36 = .ok (.iconst 0, 1) := by decide +kernel
theorem d_Mo_meet_37 : decode b_Mo_meet 37 = .ok (.ireturn, 1) := by decide +kernel
theorem d_Mo_entryFits_0 : decode b_Mo_entryFits 0 = .ok (.bipush 52, 2) := by decide +kernel
theorem d_Mo_entryFits_2 : decode b_Mo_entryFits 2 = .ok (.bipush 32, 2) := by decide +kernel
theorem d_Mo_entryFits_4 : decode b_Mo_entryFits 4 = .ok (.iload_n 1, 1) := by decide +kernel
theorem d_Mo_entryFits_5 : decode b_Mo_entryFits 5 = .ok (.imul, 1) := by decide +kernel
theorem d_Mo_entryFits_6 : decode b_Mo_entryFits 6 = .ok (.iadd, 1) := by decide +kernel
theorem d_Mo_entryFits_7 : decode b_Mo_entryFits 7 = .ok (.istore_n 3, 1) := by decide +kernel
theorem d_Mo_entryFits_8 : decode b_Mo_entryFits 8 = .ok (.aload_n 0, 1) := by decide +kernel
theorem d_Mo_entryFits_9 : decode b_Mo_entryFits 9 = .ok (.iload_n 3, 1) := by decide +kernel
theorem d_Mo_entryFits_10 : decode b_Mo_entryFits 10 = .ok (.iload_n 1, 1) := by decide +kernel
theorem d_Mo_entryFits_11 : decode b_Mo_entryFits 11 = .ok (.ifCond .ne 7, 3) := by decide +kernel
theorem d_Mo_entryFits_14 : decode b_Mo_entryFits 14 = .ok (.iconst 1, 1) := by decide +kernel
theorem d_Mo_entryFits_15 : decode b_Mo_entryFits 15 = .ok (.goto 4, 3) := by decide +kernel
theorem d_Mo_entryFits_18 : decode b_Mo_entryFits 18 = .ok (.iconst 0, 1) := by decide +kernel
theorem d_Mo_entryFits_19 : decode b_Mo_entryFits 19 = .ok (.iload_n 2, 1) := by decide +kernel
theorem d_Mo_entryFits_20 : decode b_Mo_entryFits 20 = .ok (.invokevirtual 110, 3) := by decide +kernel
theorem d_Mo_entryFits_23 : decode b_Mo_entryFits 23 = .ok (.istore 4, 2) := by decide +kernel
theorem d_Mo_entryFits_25 : decode b_Mo_entryFits 25 = .ok (.iload 4, 2) := by decide +kernel
theorem d_Mo_entryFits_27 : decode b_Mo_entryFits 27 = .ok (.bipush 8, 2) := by decide +kernel
theorem d_Mo_entryFits_29 : decode b_Mo_entryFits 29 = .ok (.if_icmp .ge 15, 3) := by decide +kernel
theorem d_Mo_entryFits_32 : decode b_Mo_entryFits 32 = .ok (.aload_n 0, 1) := by decide +kernel
theorem d_Mo_entryFits_33 : decode b_Mo_entryFits 33 = .ok (.iconst 3, 1) := by decide +kernel
theorem d_Mo_entryFits_34 : decode b_Mo_entryFits 34 = .ok (.iload_n 3, 1) := by decide +kernel
theorem d_Mo_entryFits_35 : decode b_Mo_entryFits 35 = .ok (.iconst 4, 1) := by decide +kernel
theorem d_Mo_entryFits_36 : decode b_Mo_entryFits 36 = .ok (.iload 4, 2) := by decide +kernel
theorem d_Mo_entryFits_38 : decode b_Mo_entryFits 38 = .ok (.imul, 1) := by decide +kernel
theorem d_Mo_entryFits_39 : decode b_Mo_entryFits 39 = .ok (.iadd, 1) := by decide +kernel
theorem d_Mo_entryFits_40 : decode b_Mo_entryFits 40 = .ok (.invokevirtual 98, 3) := by decide +kernel
theorem d_Mo_entryFits_43 : decode b_Mo_entryFits 43 = .ok (.ireturn, 1) := by decide +kernel
theorem d_Mo_entryFits_44 : decode b_Mo_entryFits 44 = .ok (.aload_n 0, 1) := by decide +kernel
theorem d_Mo_entryFits_45 : decode b_Mo_entryFits 45 = .ok (.iload_n 3, 1) := by decide +kernel
theorem d_Mo_entryFits_46 : decode b_Mo_entryFits 46 = .ok (.iconst 4, 1) := by decide +kernel
theorem d_Mo_entryFits_47 : decode b_Mo_entryFits 47 = .ok (.iadd, 1) := by decide +kernel
theorem d_Mo_entryFits_48 : decode b_Mo_entryFits 48 = .ok (.invokevirtual 107, 3) := by decide +kernel
theorem d_Mo_entryFits_51 : decode b_Mo_entryFits 51 = .ok (.i2l, 1) := by decide +kernel
theorem d_Mo_entryFits_52 : decode b_Mo_entryFits 52 = .ok (.lstore 5, 2) := by decide +kernel
theorem d_Mo_entryFits_54 : decode b_Mo_entryFits 54 = .ok (.aload_n 0, 1) := by decide +kernel
theorem d_Mo_entryFits_55 : decode b_Mo_entryFits 55 = .ok (.iload_n 3, 1) := by decide +kernel
theorem d_Mo_entryFits_56 : decode b_Mo_entryFits 56 = .ok (.bipush 16, 2) := by decide +kernel
theorem d_Mo_entryFits_58 : decode b_Mo_entryFits 58 = .ok (.iadd, 1) := by decide +kernel
theorem d_Mo_entryFits_59 : decode b_Mo_entryFits 59 = .ok (.invokevirtual 107, 3) := by decide +kernel
theorem d_Mo_entryFits_62 : decode b_Mo_entryFits 62 = .ok (.i2l, 1) := by decide +kernel
theorem d_Mo_entryFits_63 : decode b_Mo_entryFits 63 = .ok (.lstore 7, 2) := by decide +kernel
theorem d_Mo_entryFits_65 : decode b_Mo_entryFits 65 = .ok (.lload 5, 2) := by decide +kernel
theorem d_Mo_entryFits_67 : decode b_Mo_entryFits 67 = .ok (.lload 7, 2) := by decide +kernel
theorem d_Mo_entryFits_69 : decode b_Mo_entryFits 69 = .ok (.ladd, 1) := by decide +kernel
theorem d_Mo_entryFits_70 : decode b_Mo_entryFits 70 = .ok (.aload_n 0, 1) := by decide +kernel
theorem d_Mo_entryFits_71 : decode b_Mo_entryFits 71 = .ok (.getfield 86, 3) := by decide +kernel
theorem d_Mo_entryFits_74 : decode b_Mo_entryFits 74 = .ok (.i2l, 1) := by decide +kernel
theorem d_Mo_entryFits_75 : decode b_Mo_entryFits 75 = .ok (.lcmp, 1) := by decide +kernel
theorem d_Mo_entryFits_76 : decode b_Mo_entryFits 76 = .ok (.ifCond .le 12, 3) := by decide +kernel
theorem d_Mo_entryFits_79 : decode b_Mo_entryFits 79 = .ok (.aload_n 0, 1) := by decide +kernel
theorem d_Mo_entryFits_80 : decode b_Mo_entryFits 80 = .ok (.iconst 1, 1) := by decide +kernel
theorem d_Mo_entryFits_81 : decode b_Mo_entryFits 81 = .ok (.iload_n 3, 1) := by decide +kernel
theorem d_Mo_entryFits_82 : decode b_Mo_entryFits 82 = .ok (.iconst 4, 1) := by decide +kernel
theorem d_Mo_entryFits_83 : decode b_Mo_entryFits 83 = .ok (.iadd, 1) := by decide +kernel
theorem d_Mo_entryFits_84 : decode b_Mo_entryFits 84 = .ok (.invokevirtual 98, 3) := by decide +kernel
theorem d_Mo_entryFits_87 : decode b_Mo_entryFits 87 = .ok (.ireturn, 1) := by decide +kernel
theorem d_Mo_entryFits_88 : decode b_Mo_entryFits 88 = .ok (.iconst 0, 1) := by decide +kernel
theorem d_Mo_entryFits_89 : decode b_Mo_entryFits 89 = .ok (.istore 9, 2) := by decide +kernel
theorem d_Mo_entryFits_91 : decode b_Mo_entryFits 91 = .ok (.iload 9, 2) := by decide +kernel
theorem d_Mo_entryFits_93 : decode b_Mo_entryFits 93 = .ok (.iload_n 1, 1) := by decide +kernel
theorem d_Mo_entryFits_94 : decode b_Mo_entryFits 94 = .ok (.if_icmp .ge 57, 3) := by decide +kernel
theorem d_Mo_entryFits_97 : decode b_Mo_entryFits 97 = .ok (.bipush 52, 2) := by decide +kernel
theorem d_Mo_entryFits_99 : decode b_Mo_entryFits 99 = .ok (.bipush 32, 2) := by decide +kernel
theorem d_Mo_entryFits_101 : decode b_Mo_entryFits 101 = .ok (.iload 9, 2) := by decide +kernel
theorem d_Mo_entryFits_103 : decode b_Mo_entryFits 103 = .ok (.imul, 1) := by decide +kernel
theorem d_Mo_entryFits_104 : decode b_Mo_entryFits 104 = .ok (.iadd, 1) := by decide +kernel
theorem d_Mo_entryFits_105 : decode b_Mo_entryFits 105 = .ok (.istore 10, 2) := by decide +kernel
theorem d_Mo_entryFits_107 : decode b_Mo_entryFits 107 = .ok (.lload 5, 2) := by decide +kernel
theorem d_Mo_entryFits_109 : decode b_Mo_entryFits 109 = .ok (.lload 7, 2) := by decide +kernel
theorem d_Mo_entryFits_111 : decode b_Mo_entryFits 111 = .ok (.aload_n 0, 1) := by decide +kernel
theorem d_Mo_entryFits_112 : decode b_Mo_entryFits 112 = .ok (.iload 10, 2) := by decide +kernel
theorem d_Mo_entryFits_114 : decode b_Mo_entryFits 114 = .ok (.iconst 4, 1) := by decide +kernel
theorem d_Mo_entryFits_115 : decode b_Mo_entryFits 115 = .ok (.iadd, 1) := by decide +kernel
theorem d_Mo_entryFits_116 : decode b_Mo_entryFits 116 = .ok (.invokevirtual 107, 3) := by decide +kernel
theorem d_Mo_entryFits_119 : decode b_Mo_entryFits 119 = .ok (.i2l, 1) := by decide +kernel
theorem d_Mo_entryFits_120 : decode b_Mo_entryFits 120 = .ok (.aload_n 0, 1) := by decide +kernel
theorem d_Mo_entryFits_121 : decode b_Mo_entryFits 121 = .ok (.iload 10, 2) := by decide +kernel
theorem d_Mo_entryFits_123 : decode b_Mo_entryFits 123 = .ok (.bipush 16, 2) := by decide +kernel
theorem d_Mo_entryFits_125 : decode b_Mo_entryFits 125 = .ok (.iadd, 1) := by decide +kernel
theorem d_Mo_entryFits_126 : decode b_Mo_entryFits 126 = .ok (.invokevirtual 107, 3) := by decide +kernel
theorem d_Mo_entryFits_129 : decode b_Mo_entryFits 129 = .ok (.i2l, 1) := by decide +kernel
theorem d_Mo_entryFits_130 : decode b_Mo_entryFits 130 = .ok (.invokestatic 114, 3) := by decide +kernel
theorem d_Mo_entryFits_133 : decode b_Mo_entryFits 133 = .ok (.ifCond .eq 12, 3) := by decide +kernel
theorem d_Mo_entryFits_136 : decode b_Mo_entryFits 136 = .ok (.aload_n 0, 1) := by decide +kernel
theorem d_Mo_entryFits_137 : decode b_Mo_entryFits 137 = .ok (.iconst 4, 1) := by decide +kernel
theorem d_Mo_entryFits_138 : decode b_Mo_entryFits 138 = .ok (.iload_n 3, 1) := by decide +kernel
theorem d_Mo_entryFits_139 : decode b_Mo_entryFits 139 = .ok (.iconst 4, 1) := by decide +kernel
theorem d_Mo_entryFits_140 : decode b_Mo_entryFits 140 = .ok (.iadd, 1) := by decide +kernel
theorem d_Mo_entryFits_141 : decode b_Mo_entryFits 141 = .ok (.invokevirtual 98, 3) := by decide +kernel
theorem d_Mo_entryFits_144 : decode b_Mo_entryFits 144 = .ok (.ireturn, 1) := by decide +kernel
theorem d_Mo_entryFits_145 : decode b_Mo_entryFits 145 = .ok (.iinc 9 1, 3) := by decide +kernel
theorem d_Mo_entryFits_148 : decode b_Mo_entryFits 148 = .ok (.goto (-57), 3) := by decide +kernel
theorem d_Mo_entryFits_151 : decode b_Mo_entryFits 151 = .ok (.iconst 1, 1) := by decide +kernel
theorem d_Mo_entryFits_152 : decode b_Mo_entryFits 152 = .ok (.istore 9, 2) := by decide +kernel
theorem d_Mo_entryFits_154 : decode b_Mo_entryFits 154 = .ok (.iload 9, 2) := by decide +kernel
theorem d_Mo_entryFits_156 : decode b_Mo_entryFits 156 = .ok (.iload_n 1, 1) := by decide +kernel
theorem d_Mo_entryFits_157 : decode b_Mo_entryFits 157 = .ok (.if_icmp .ge 73, 3) := by decide +kernel
theorem d_Mo_entryFits_160 : decode b_Mo_entryFits 160 = .ok (.bipush 52, 2) := by decide +kernel
theorem d_Mo_entryFits_162 : decode b_Mo_entryFits 162 = .ok (.bipush 32, 2) := by decide +kernel
theorem d_Mo_entryFits_164 : decode b_Mo_entryFits 164 = .ok (.iload 9, 2) := by decide +kernel
theorem d_Mo_entryFits_166 : decode b_Mo_entryFits 166 = .ok (.imul, 1) := by decide +kernel
theorem d_Mo_entryFits_167 : decode b_Mo_entryFits 167 = .ok (.iadd, 1) := by decide +kernel
theorem d_Mo_entryFits_168 : decode b_Mo_entryFits 168 = .ok (.istore 10, 2) := by decide +kernel
theorem d_Mo_entryFits_170 : decode b_Mo_entryFits 170 = .ok (.aload_n 0, 1) := by decide +kernel
theorem d_Mo_entryFits_171 : decode b_Mo_entryFits 171 = .ok (.iload_n 3, 1) := by decide +kernel
theorem d_Mo_entryFits_172 : decode b_Mo_entryFits 172 = .ok (.bipush 8, 2) := by decide +kernel
theorem d_Mo_entryFits_174 : decode b_Mo_entryFits 174 = .ok (.iadd, 1) := by decide +kernel
theorem d_Mo_entryFits_175 : decode b_Mo_entryFits 175 = .ok (.invokevirtual 107, 3) := by decide +kernel
theorem d_Mo_entryFits_178 : decode b_Mo_entryFits 178 = .ok (.i2l, 1) := by decide +kernel
theorem d_Mo_entryFits_179 : decode b_Mo_entryFits 179 = .ok (.aload_n 0, 1) := by decide +kernel
theorem d_Mo_entryFits_180 : decode b_Mo_entryFits 180 = .ok (.iload_n 3, 1) := by decide +kernel
theorem d_Mo_entryFits_181 : decode b_Mo_entryFits 181 = .ok (.bipush 20, 2) := by decide +kernel
theorem d_Mo_entryFits_183 : decode b_Mo_entryFits 183 = .ok (.iadd, 1) := by decide +kernel
theorem d_Mo_entryFits_184 : decode b_Mo_entryFits 184 = .ok (.invokevirtual 107, 3) := by decide +kernel
theorem d_Mo_entryFits_187 : decode b_Mo_entryFits 187 = .ok (.i2l, 1) := by decide +kernel
theorem d_Mo_entryFits_188 : decode b_Mo_entryFits 188 = .ok (.aload_n 0, 1) := by decide +kernel
theorem d_Mo_entryFits_189 : decode b_Mo_entryFits 189 = .ok (.iload 10, 2) := by decide +kernel
theorem d_Mo_entryFits_191 : decode b_Mo_entryFits 191 = .ok (.bipush 8, 2) := by decide +kernel
theorem d_Mo_entryFits_193 : decode b_Mo_entryFits 193 = .ok (.iadd, 1) := by decide +kernel
theorem d_Mo_entryFits_194 : decode b_Mo_entryFits 194 = .ok (.invokevirtual 107, 3) := by decide +kernel
theorem d_Mo_entryFits_197 : decode b_Mo_entryFits 197 = .ok (.i2l, 1) := by decide +kernel
theorem d_Mo_entryFits_198 : decode b_Mo_entryFits 198 = .ok (.aload_n 0, 1) := by decide +kernel
theorem d_Mo_entryFits_199 : decode b_Mo_entryFits 199 = .ok (.iload 10, 2) := by decide +kernel
theorem d_Mo_entryFits_201 : decode b_Mo_entryFits 201 = .ok (.bipush 20, 2) := by decide +kernel
theorem d_Mo_entryFits_203 : decode b_Mo_entryFits 203 = .ok (.iadd, 1) := by decide +kernel
theorem d_Mo_entryFits_204 : decode b_Mo_entryFits 204 = .ok (.invokevirtual 107, 3) := by decide +kernel
theorem d_Mo_entryFits_207 : decode b_Mo_entryFits 207 = .ok (.i2l, 1) := by decide +kernel
theorem d_Mo_entryFits_208 : decode b_Mo_entryFits 208 = .ok (.invokestatic 114, 3) := by decide +kernel
theorem d_Mo_entryFits_211 : decode b_Mo_entryFits 211 = .ok (.ifCond .eq 13, 3) := by decide +kernel
theorem d_Mo_entryFits_214 : decode b_Mo_entryFits 214 = .ok (.aload_n 0, 1) := by decide +kernel
theorem d_Mo_entryFits_215 : decode b_Mo_entryFits 215 = .ok (.iconst 5, 1) := by decide +kernel
theorem d_Mo_entryFits_216 : decode b_Mo_entryFits 216 = .ok (.iload_n 3, 1) := by decide +kernel
theorem d_Mo_entryFits_217 : decode b_Mo_entryFits 217 = .ok (.bipush 8, 2) := by decide +kernel
theorem d_Mo_entryFits_219 : decode b_Mo_entryFits 219 = .ok (.iadd, 1) := by decide +kernel
theorem d_Mo_entryFits_220 : decode b_Mo_entryFits 220 = .ok (.invokevirtual 98, 3) := by decide +kernel
theorem d_Mo_entryFits_223 : decode b_Mo_entryFits 223 = .ok (.ireturn, 1) := by decide +kernel
theorem d_Mo_entryFits_224 : decode b_Mo_entryFits 224 = .ok (.iinc 9 1, 3) := by decide +kernel
theorem d_Mo_entryFits_227 : decode b_Mo_entryFits 227 = .ok (.goto (-73), 3) := by decide +kernel
theorem d_Mo_entryFits_230 : decode b_Mo_entryFits 230 = .ok (.iconst 1, 1) := by decide +kernel
theorem d_Mo_entryFits_231 : decode b_Mo_entryFits 231 = .ok (.ireturn, 1) := by decide +kernel
theorem d_Mo_noteByte_0 : decode b_Mo_noteByte 0 = .ok (.iload_n 0, 1) := by decide +kernel
theorem d_Mo_noteByte_1 : decode b_Mo_noteByte 1 = .ok (.tableswitch 111 0 19 #[95, 97, 97, 97, 111, 111, 111, 111, 111, 111, 111, 111, 99, 102, 105, 108, 97, 97, 97, 97], 95) := by decide +kernel
theorem d_Mo_noteByte_96 : decode b_Mo_noteByte 96 = .ok (.iconst 5, 1) := by decide +kernel
theorem d_Mo_noteByte_97 : decode b_Mo_noteByte 97 = .ok (.ireturn, 1) := by decide +kernel
theorem d_Mo_noteByte_98 : decode b_Mo_noteByte 98 = .ok (.iconst 0, 1) := by decide +kernel
theorem d_Mo_noteByte_99 : decode b_Mo_noteByte 99 = .ok (.ireturn, 1) := by decide +kernel
theorem d_Mo_noteByte_100 : decode b_Mo_noteByte 100 = .ok (.bipush 67, 2) := by decide +kernel
theorem d_Mo_noteByte_102 : decode b_Mo_noteByte 102 = .ok (.ireturn, 1) := by decide +kernel
theorem d_Mo_noteByte_103 : decode b_Mo_noteByte 103 = .ok (.bipush 79, 2) := by decide +kernel
theorem d_Mo_noteByte_105 : decode b_Mo_noteByte 105 = .ok (.ireturn, 1) := by decide +kernel
theorem d_Mo_noteByte_106 : decode b_Mo_noteByte 106 = .ok (.bipush 82, 2) := by decide +kernel
theorem d_Mo_noteByte_108 : decode b_Mo_noteByte 108 = .ok (.ireturn, 1) := by decide +kernel
theorem d_Mo_noteByte_109 : decode b_Mo_noteByte 109 = .ok (.bipush 69, 2) := by decide +kernel
theorem d_Mo_noteByte_111 : decode b_Mo_noteByte 111 = .ok (.ireturn, 1) := by decide +kernel
theorem d_Mo_noteByte_112 : decode b_Mo_noteByte 112 = .ok (.iconst (-1), 1) := by decide +kernel
theorem d_Mo_noteByte_113 : decode b_Mo_noteByte 113 = .ok (.ireturn, 1) := by decide +kernel
