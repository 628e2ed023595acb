theorem d_Row_init_0 : decode b_Row_init 0 = .ok (.aload_n 0, 1) := by decide +kernel
theorem d_Row_init_1 : decode b_Row_init 1 = .ok (.invokespecial 3, 3) := by decide +kernel
theorem d_Row_init_4 : decode b_Row_init 4 = .ok (.aload_n 0, 1) := by decide +kernel
theorem d_Row_init_5 : decode b_Row_init 5 = .ok (.iload_n 1, 1) := by decide +kernel
theorem d_Row_init_6 : decode b_Row_init 6 = .ok (.newarray .byte, 2) := by decide +kernel
theorem d_Row_init_8 : decode b_Row_init 8 = .ok (.putfield 9, 3) := by decide +kernel
theorem d_Row_init_11 : decode b_Row_init 11 = .ok (.aload_n 0, 1) := by decide +kernel
theorem d_Row_init_12 : decode b_Row_init 12 = .ok (.iconst 0, 1) := by decide +kernel
theorem d_Row_init_13 : decode b_Row_init 13 = .ok (.putfield 15, 3) := by decide +kernel
theorem d_Row_init_16 : decode b_Row_init 16 = .ok (.return_, 1) := by decide +kernel
theorem d_Row_length_0 : decode b_Row_length 0 = .ok (.aload_n 0, 1) := by decide +kernel
theorem d_Row_length_1 : decode b_Row_length 1 = .ok (.getfield 15, 3) := by decide +kernel
theorem d_Row_length_4 : decode b_Row_length 4 = .ok (.ireturn, 1) := by decide +kernel
theorem d_Row_at_0 : decode b_Row_at 0 = .ok (.iload_n 1, 1) := by decide +kernel
theorem d_Row_at_1 : decode b_Row_at 1 = .ok (.ifCond .lt 11, 3) := by decide +kernel
theorem d_Row_at_4 : decode b_Row_at 4 = .ok (.iload_n 1, 1) := by decide +kernel
theorem d_Row_at_5 : decode b_Row_at 5 = .ok (.aload_n 0, 1) := by decide +kernel
theorem d_Row_at_6 : decode b_Row_at 6 = .ok (.getfield 15, 3) := by decide +kernel
theorem d_Row_at_9 : decode b_Row_at 9 = .ok (.if_icmp .lt 7, 3) := by decide +kernel
theorem d_Row_at_12 : decode b_Row_at 12 = .ok (.iconst (-1), 1) := by decide +kernel
theorem d_Row_at_13 : decode b_Row_at 13 = .ok (.goto 13, 3) := by decide +kernel
theorem d_Row_at_16 : decode b_Row_at 16 = .ok (.aload_n 0, 1) := by decide +kernel
theorem d_Row_at_17 : decode b_Row_at 17 = .ok (.getfield 9, 3) := by decide +kernel
theorem d_Row_at_20 : decode b_Row_at 20 = .ok (.iload_n 1, 1) := by decide +kernel
theorem d_Row_at_21 : decode b_Row_at 21 = .ok (.baload, 1) := by decide +kernel
theorem d_Row_at_22 : decode b_Row_at 22 = .ok (.sipush 255, 3) := by decide +kernel
theorem d_Row_at_25 : decode b_Row_at 25 = .ok (.iand, 1) := by decide +kernel
theorem d_Row_at_26 : decode b_Row_at 26 = .ok (.ireturn, 1) := by decide +kernel
theorem d_Row_number_0 : decode b_Row_number 0 = .ok (.iload_n 1, 1) := by decide +kernel
theorem d_Row_number_1 : decode b_Row_number 1 = .ok (.ifCond .lt 13, 3) := by decide +kernel
theorem d_Row_number_4 : decode b_Row_number 4 = .ok (.iload_n 1, 1) := by decide +kernel
theorem d_Row_number_5 : decode b_Row_number 5 = .ok (.aload_n 0, 1) := by decide +kernel
theorem d_Row_number_6 : decode b_Row_number 6 = .ok (.getfield 15, 3) := by decide +kernel
theorem d_Row_number_9 : decode b_Row_number 9 = .ok (.iload_n 2, 1) := by decide +kernel
theorem d_Row_number_10 : decode b_Row_number 10 = .ok (.isub, 1) := by decide +kernel
theorem d_Row_number_11 : decode b_Row_number 11 = .ok (.if_icmp .le 5, 3) := by decide +kernel
theorem d_Row_number_14 : decode b_Row_number 14 = .ok (.iconst 0, 1) := by decide +kernel
theorem d_Row_number_15 : decode b_Row_number 15 = .ok (.ireturn, 1) := by decide +kernel
theorem d_Row_number_16 : decode b_Row_number 16 = .ok (.iconst 0, 1) := by decide +kernel
theorem d_Row_number_17 : decode b_Row_number 17 = .ok (.istore_n 3, 1) := by decide +kernel
theorem d_Row_number_18 : decode b_Row_number 18 = .ok (.iload_n 2, 1) := by decide +kernel
theorem d_Row_number_19 : decode b_Row_number 19 = .ok (.iconst 1, 1) := by decide +kernel
theorem d_Row_number_20 : decode b_Row_number 20 = .ok (.isub, 1) := by decide +kernel
theorem d_Row_number_21 : decode b_Row_number 21 = .ok (.istore 4, 2) := by decide +kernel
theorem d_Row_number_23 : decode b_Row_number 23 = .ok (.iload 4, 2) := by decide +kernel
theorem d_Row_number_25 : decode b_Row_number 25 = .ok (.ifCond .lt 28, 3) := by decide +kernel
theorem d_Row_number_28 : decode b_Row_number 28 = .ok (.iload_n 3, 1) := by decide +kernel
theorem d_Row_number_29 : decode b_Row_number 29 = .ok (.bipush 8, 2) := by decide +kernel
theorem d_Row_number_31 : decode b_Row_number 31 = .ok (.ishl, 1) := by decide +kernel
theorem d_Row_number_32 : decode b_Row_number 32 = .ok (.aload_n 0, 1) := by decide +kernel
theorem d_Row_number_33 : decode b_Row_number 33 = .ok (.getfield 9, 3) := by decide +kernel
theorem d_Row_number_36 : decode b_Row_number 36 = .ok (.iload_n 1, 1) := by decide +kernel
theorem d_Row_number_37 : decode b_Row_number 37 = .ok (.iload 4, 2) := by decide +kernel
theorem d_Row_number_39 : decode b_Row_number 39 = .ok (.iadd, 1) := by decide +kernel
theorem d_Row_number_40 : decode b_Row_number 40 = .ok (.baload, 1) := by decide +kernel
theorem d_Row_number_41 : decode b_Row_number 41 = .ok (.sipush 255, 3) := by decide +kernel
theorem d_Row_number_44 : decode b_Row_number 44 = .ok (.iand, 1) := by decide +kernel
theorem d_Row_number_45 : decode b_Row_number 45 = .ok (.ior, 1) := by decide +kernel
theorem d_Row_number_46 : decode b_Row_number 46 = .ok (.istore_n 3, 1) := by decide +kernel
theorem d_Row_number_47 : decode b_Row_number 47 = .ok (.iinc 4 (-1), 3) := by decide +kernel
theorem d_Row_number_50 : decode b_Row_number 50 = .ok (.goto (-27), 3) := by decide +kernel
theorem d_Row_number_53 : decode b_Row_number 53 = .ok (.iload_n 3, 1) := by decide +kernel
theorem d_Row_number_54 : decode b_Row_number 54 = .ok (.ireturn, 1) := by decide +kernel
theorem d_Row_change_0 : decode b_Row_change 0 = .ok (.iload_n 1, 1) := by decide +kernel
theorem d_Row_change_1 : decode b_Row_change 1 = .ok (.ifCond .lt 11, 3) := by decide +kernel
theorem d_Row_change_4 : decode b_Row_change 4 = .ok (.iload_n 1, 1) := by decide +kernel
theorem d_Row_change_5 : decode b_Row_change 5 = .ok (.aload_n 0, 1) := by decide +kernel
theorem d_Row_change_6 : decode b_Row_change 6 = .ok (.getfield 15, 3) := by decide +kernel
theorem d_Row_change_9 : decode b_Row_change 9 = .ok (.if_icmp .lt 5, 3) := by decide +kernel
theorem d_Row_change_12 : decode b_Row_change 12 = .ok (.iconst 0, 1) := by decide +kernel
theorem d_Row_change_13 : decode b_Row_change 13 = .ok (.ireturn, 1) := by decide +kernel
theorem d_Row_change_14 : decode b_Row_change 14 = .ok (.aload_n 0, 1) := by decide +kernel
theorem d_Row_change_15 : decode b_Row_change 15 = .ok (.getfield 9, 3) := by decide +kernel
theorem d_Row_change_18 : decode b_Row_change 18 = .ok (.iload_n 1, 1) := by decide +kernel
theorem d_Row_change_19 : decode b_Row_change 19 = .ok (.iload_n 2, 1) := by decide +kernel
theorem d_Row_change_20 : decode b_Row_change 20 = .ok (.i2b, 1) := by decide +kernel
theorem d_Row_change_21 : decode b_Row_change 21 = .ok (.bastore, 1) := by decide +kernel
theorem d_Row_change_22 : decode b_Row_change 22 = .ok (.iconst 1, 1) := by decide +kernel
theorem d_Row_change_23 : decode b_Row_change 23 = .ok (.ireturn, 1) := by decide +kernel
theorem d_Row_append_0 : decode b_Row_append 0 = .ok (.aload_n 0, 1) := by decide +kernel
theorem d_Row_append_1 : decode b_Row_append 1 = .ok (.getfield 15, 3) := by decide +kernel
theorem d_Row_append_4 : decode b_Row_append 4 = .ok (.aload_n 0, 1) := by decide +kernel
theorem d_Row_append_5 : decode b_Row_append 5 = .ok (.getfield 9, 3) := by decide +kernel
theorem d_Row_append_8 : decode b_Row_append 8 = .ok (.arraylength, 1) := by decide +kernel
theorem d_Row_append_9 : decode b_Row_append 9 = .ok (.if_icmp .lt 5, 3) := by decide +kernel
theorem d_Row_append_12 : decode b_Row_append 12 = .ok (.iconst 0, 1) := by decide +kernel
theorem d_Row_append_13 : decode b_Row_append 13 = .ok (.ireturn, 1) := by decide +kernel
theorem d_Row_append_14 : decode b_Row_append 14 = .ok (.aload_n 0, 1) := by decide +kernel
theorem d_Row_append_15 : decode b_Row_append 15 = .ok (.getfield 9, 3) := by decide +kernel
theorem d_Row_append_18 : decode b_Row_append 18 = .ok (.aload_n 0, 1) := by decide +kernel
theorem d_Row_append_19 : decode b_Row_append 19 = .ok (.getfield 15, 3) := by decide +kernel
theorem d_Row_append_22 : decode b_Row_append 22 = .ok (.iload_n 1, 1) := by decide +kernel
theorem d_Row_append_23 : decode b_Row_append 23 = .ok (.i2b, 1) := by decide +kernel
theorem d_Row_append_24 : decode b_Row_append 24 = .ok (.bastore, 1) := by decide +kernel
theorem d_Row_append_25 : decode b_Row_append 25 = .ok (.aload_n 0, 1) := by decide +kernel
theorem d_Row_append_26 : decode b_Row_append 26 = .ok (.dup, 1) := by decide +kernel
theorem d_Row_append_27 : decode b_Row_append 27 = .ok (.getfield 15, 3) := by decide +kernel
theorem d_Row_append_30 : decode b_Row_append 30 = .ok (.iconst 1, 1) := by decide +kernel
theorem d_Row_append_31 : decode b_Row_append 31 = .ok (.iadd, 1) := by decide +kernel
theorem d_Row_append_32 : decode b_Row_append 32 = .ok (.putfield 15, 3) := by decide +kernel
theorem d_Row_append_35 : decode b_Row_append 35 = .ok (.iconst 1, 1) := by decide +kernel
theorem d_Row_append_36 : decode b_Row_append 36 = .ok (.ireturn, 1) := by decide +kernel
theorem d_Row_appendNumber_0 : decode b_Row_appendNumber 0 = .ok (.iload_n 1, 1) := by decide +kernel
theorem d_Row_appendNumber_1 : decode b_Row_appendNumber 1 = .ok (.istore_n 3, 1) := by decide +kernel
theorem d_Row_appendNumber_2 : decode b_Row_appendNumber 2 = .ok (.iconst 0, 1) := by decide +kernel
theorem d_Row_appendNumber_3 : decode b_Row_appendNumber 3 = .ok (.istore 4, 2) := by decide +kernel
theorem d_Row_appendNumber_5 : decode b_Row_appendNumber 5 = .ok (.iload 4, 2) := by decide +kernel
theorem d_Row_appendNumber_7 : decode b_Row_appendNumber 7 = .ok (.iload_n 2, 1) := by decide +kernel
theorem d_Row_appendNumber_8 : decode b_Row_appendNumber 8 = .ok (.if_icmp .ge 20, 3) := by decide +kernel
theorem d_Row_appendNumber_11 : decode b_Row_appendNumber 11 = .ok (.aload_n 0, 1) := by decide +kernel
theorem d_Row_appendNumber_12 : decode b_Row_appendNumber 12 = .ok (.iload_n 3, 1) := by decide +kernel
theorem d_Row_appendNumber_13 : decode b_Row_appendNumber 13 = .ok (.invokevirtual 19, 3) := by decide +kernel
theorem d_Row_appendNumber_16 : decode b_Row_appendNumber 16 = .ok (.pop, 1) := by decide +kernel
theorem d_Row_appendNumber_17 : decode b_Row_appendNumber 17 = .ok (.iload_n 3, 1) := by decide +kernel
theorem d_Row_appendNumber_18 : decode b_Row_appendNumber 18 = .ok (.bipush 8, 2) := by decide +kernel
theorem d_Row_appendNumber_20 : decode b_Row_appendNumber 20 = .ok (.ishr, 1) := by decide +kernel
theorem d_Row_appendNumber_21 : decode b_Row_appendNumber 21 = .ok (.istore_n 3, 1) := by decide +kernel
theorem d_Row_appendNumber_22 : decode b_Row_appendNumber 22 = .ok (.iinc 4 1, 3) := by decide +kernel
theorem d_Row_appendNumber_25 : decode b_Row_appendNumber 25 = .ok (.goto (-20), 3) := by decide +kernel
theorem d_Row_appendNumber_28 : decode b_Row_appendNumber 28 = .ok (.return_, 1) := by decide +kernel
theorem d_Row_appendBytes_0 : decode b_Row_appendBytes 0 = .ok (.iload_n 2, 1) := by decide +kernel
theorem d_Row_appendBytes_1 : decode b_Row_appendBytes 1 = .ok (.ifCond .lt 23, 3) := by decide +kernel
theorem d_Row_appendBytes_4 : decode b_Row_appendBytes 4 = .ok (.iload_n 2, 1) := by decide +kernel
theorem d_Row_appendBytes_5 : decode b_Row_appendBytes 5 = .ok (.aload_n 1, 1) := by decide +kernel
theorem d_Row_appendBytes_6 : decode b_Row_appendBytes 6 = .ok (.arraylength, 1) := by decide +kernel
theorem d_Row_appendBytes_7 : decode b_Row_appendBytes 7 = .ok (.if_icmp .gt 17, 3) := by decide +kernel
theorem d_Row_appendBytes_10 : decode b_Row_appendBytes 10 = .ok (.iload_n 2, 1) := by decide +kernel
theorem d_Row_appendBytes_11 : decode b_Row_appendBytes 11 = .ok (.aload_n 0, 1) := by decide +kernel
theorem d_Row_appendBytes_12 : decode b_Row_appendBytes 12 = .ok (.getfield 9, 3) := by decide +kernel
theorem d_Row_appendBytes_15 : decode b_Row_appendBytes 15 = .ok (.arraylength, 1) := by decide +kernel
theorem d_Row_appendBytes_16 : decode b_Row_appendBytes 16 = .ok (.aload_n 0, 1) := by decide +kernel
theorem d_Row_appendBytes_17 : decode b_Row_appendBytes 17 = .ok (.getfield 15, 3) := by decide +kernel
theorem d_Row_appendBytes_20 : decode b_Row_appendBytes 20 = .ok (.isub, 1) := by decide +kernel
theorem d_Row_appendBytes_21 : decode b_Row_appendBytes 21 = .ok (.if_icmp .le 4, 3) := by decide +kernel
theorem d_Row_appendBytes_24 : decode b_Row_appendBytes 24 = .ok (.return_, 1) := by decide +kernel
theorem d_Row_appendBytes_25 : decode b_Row_appendBytes 25 = .ok (.aload_n 1, 1) := by decide +kernel
theorem d_Row_appendBytes_26 : decode b_Row_appendBytes 26 = .ok (.iconst 0, 1) := by decide +kernel
theorem d_Row_appendBytes_27 : decode b_Row_appendBytes 27 = .ok (.aload_n 0, 1) := by decide +kernel
theorem d_Row_appendBytes_28 : decode b_Row_appendBytes 28 = .ok (.getfield 9, 3) := by decide +kernel
theorem d_Row_appendBytes_31 : decode b_Row_appendBytes 31 = .ok (.aload_n 0, 1) := by decide +kernel
theorem d_Row_appendBytes_32 : decode b_Row_appendBytes 32 = .ok (.getfield 15, 3) := by decide +kernel
theorem d_Row_appendBytes_35 : decode b_Row_appendBytes 35 = .ok (.iload_n 2, 1) := by decide +kernel
theorem d_Row_appendBytes_36 : decode b_Row_appendBytes 36 = .ok (.invokestatic 23, 3) := by decide +kernel
theorem d_Row_appendBytes_39 : decode b_Row_appendBytes 39 = .ok (.aload_n 0, 1) := by decide +kernel
theorem d_Row_appendBytes_40 : decode b_Row_appendBytes 40 = .ok (.dup, 1) := by decide +kernel
theorem d_Row_appendBytes_41 : decode b_Row_appendBytes 41 = .ok (.getfield 15, 3) := by decide +kernel
theorem d_Row_appendBytes_44 : decode b_Row_appendBytes 44 = .ok (.iload_n 2, 1) := by decide +kernel
theorem d_Row_appendBytes_45 : decode b_Row_appendBytes 45 = .ok (.iadd, 1) := by decide +kernel
theorem d_Row_appendBytes_46 : decode b_Row_appendBytes 46 = .ok (.putfield 15, 3) := by decide +kernel
theorem d_Row_appendBytes_49 : decode b_Row_appendBytes 49 = .ok (.return_, 1) := by decide +kernel
theorem d_Row_giveBytes_0 : decode b_Row_giveBytes 0 = .ok (.iload_n 1, 1) := by decide +kernel
theorem d_Row_giveBytes_1 : decode b_Row_giveBytes 1 = .ok (.ifCond .lt 31, 3) := by decide +kernel
theorem d_Row_giveBytes_4 : decode b_Row_giveBytes 4 = .ok (.iload_n 3, 1) := by decide +kernel
theorem d_Row_giveBytes_5 : decode b_Row_giveBytes 5 = .ok (.ifCond .lt 27, 3) := by decide +kernel
theorem d_Row_giveBytes_8 : decode b_Row_giveBytes 8 = .ok (.iload_n 3, 1) := by decide +kernel
theorem d_Row_giveBytes_9 : decode b_Row_giveBytes 9 = .ok (.aload_n 2, 1) := by decide +kernel
theorem d_Row_giveBytes_10 : decode b_Row_giveBytes 10 = .ok (.arraylength, 1) := by decide +kernel
theorem d_Row_giveBytes_11 : decode b_Row_giveBytes 11 = .ok (.if_icmp .gt 21, 3) := by decide +kernel
theorem d_Row_giveBytes_14 : decode b_Row_giveBytes 14 = .ok (.iload_n 1, 1) := by decide +kernel
theorem d_Row_giveBytes_15 : decode b_Row_giveBytes 15 = .ok (.aload_n 0, 1) := by decide +kernel
theorem d_Row_giveBytes_16 : decode b_Row_giveBytes 16 = .ok (.getfield 15, 3) := by decide +kernel
theorem d_Row_giveBytes_19 : decode b_Row_giveBytes 19 = .ok (.if_icmp .gt 13, 3) := by decide +kernel
theorem d_Row_giveBytes_22 : decode b_Row_giveBytes 22 = .ok (.iload_n 3, 1) := by decide +kernel
theorem d_Row_giveBytes_23 : decode b_Row_giveBytes 23 = .ok (.aload_n 0, 1) := by decide +kernel
theorem d_Row_giveBytes_24 : decode b_Row_giveBytes 24 = .ok (.getfield 15, 3) := by decide +kernel
theorem d_Row_giveBytes_27 : decode b_Row_giveBytes 27 = .ok (.iload_n 1, 1) := by decide +kernel
theorem d_Row_giveBytes_28 : decode b_Row_giveBytes 28 = .ok (.isub, 1) := by decide +kernel
theorem d_Row_giveBytes_29 : decode b_Row_giveBytes 29 = .ok (.if_icmp .le 4, 3) := by decide +kernel
theorem d_Row_giveBytes_32 : decode b_Row_giveBytes 32 = .ok (.return_, 1) := by decide +kernel
theorem d_Row_giveBytes_33 : decode b_Row_giveBytes 33 = .ok (.aload_n 0, 1) := by decide +kernel
theorem d_Row_giveBytes_34 : decode b_Row_giveBytes 34 = .ok (.getfield 9, 3) := by decide +kernel
theorem d_Row_giveBytes_37 : decode b_Row_giveBytes 37 = .ok (.iload_n 1, 1) := by decide +kernel
theorem d_Row_giveBytes_38 : decode b_Row_giveBytes 38 = .ok (.aload_n 2, 1) := by decide +kernel
theorem d_Row_giveBytes_39 : decode b_Row_giveBytes 39 = .ok (.iconst 0, 1) := by decide +kernel
theorem d_Row_giveBytes_40 : decode b_Row_giveBytes 40 = .ok (.iload_n 3, 1) := by decide +kernel
theorem d_Row_giveBytes_41 : decode b_Row_giveBytes 41 = .ok (.invokestatic 23, 3) := by decide +kernel
theorem d_Row_giveBytes_44 : decode b_Row_giveBytes 44 = .ok (.return_, 1) := by decide +kernel
theorem d_Row_shorten_0 : decode b_Row_shorten 0 = .ok (.iload_n 1, 1) := by decide +kernel
theorem d_Row_shorten_1 : decode b_Row_shorten 1 = .ok (.ifCond .lt 11, 3) := by decide +kernel
theorem d_Row_shorten_4 : decode b_Row_shorten 4 = .ok (.iload_n 1, 1) := by decide +kernel
theorem d_Row_shorten_5 : decode b_Row_shorten 5 = .ok (.aload_n 0, 1) := by decide +kernel
theorem d_Row_shorten_6 : decode b_Row_shorten 6 = .ok (.getfield 15, 3) := by decide +kernel
theorem d_Row_shorten_9 : decode b_Row_shorten 9 = .ok (.if_icmp .le 5, 3) := by decide +kernel
theorem d_Row_shorten_12 : decode b_Row_shorten 12 = .ok (.iconst 0, 1) := by decide +kernel
theorem d_Row_shorten_13 : decode b_Row_shorten 13 = .ok (.ireturn, 1) := by decide +kernel
theorem d_Row_shorten_14 : decode b_Row_shorten 14 = .ok (.aload_n 0, 1) := by decide +kernel
theorem d_Row_shorten_15 : decode b_Row_shorten 15 = .ok (.iload_n 1, 1) := by decide +kernel
theorem d_Row_shorten_16 : decode b_Row_shorten 16 = .ok (.putfield 15, 3) := by decide +kernel
theorem d_Row_shorten_19 : decode b_Row_shorten 19 = .ok (.iconst 1, 1) := by decide +kernel
theorem d_Row_shorten_20 : decode b_Row_shorten 20 = .ok (.ireturn, 1) := by decide +kernel
theorem d_Row_become_0 : decode b_Row_become 0 = .ok (.aload_n 0, 1) := by decide +kernel
theorem d_Row_become_1 : decode b_Row_become 1 = .ok (.iconst 0, 1) := by decide +kernel
theorem d_Row_become_2 : decode b_Row_become 2 = .ok (.putfield 15, 3) := by decide +kernel
theorem d_Row_become_5 : decode b_Row_become 5 = .ok (.aload_n 0, 1) := by decide +kernel
theorem d_Row_become_6 : decode b_Row_become 6 = .ok (.aload_n 1, 1) := by decide +kernel
theorem d_Row_become_7 : decode b_Row_become 7 = .ok (.getfield 9, 3) := by decide +kernel
theorem d_Row_become_10 : decode b_Row_become 10 = .ok (.aload_n 1, 1) := by decide +kernel
theorem d_Row_become_11 : decode b_Row_become 11 = .ok (.getfield 15, 3) := by decide +kernel
theorem d_Row_become_14 : decode b_Row_become 14 = .ok (.invokevirtual 29, 3) := by decide +kernel
theorem d_Row_become_17 : decode b_Row_become 17 = .ok (.return_, 1) := by decide +kernel
theorem d_Reg_init_0 : decode b_Reg_init 0 = .ok (.aload_n 0, 1) := by decide +kernel
theorem d_Reg_init_1 : decode b_Reg_init 1 = .ok (.invokespecial 3, 3) := by decide +kernel
theorem d_Reg_init_4 : decode b_Reg_init 4 = .ok (.aload_n 0, 1) := by decide +kernel
theorem d_Reg_init_5 : decode b_Reg_init 5 = .ok (.sipush 1024, 3) := by decide +kernel
theorem d_Reg_init_8 : decode b_Reg_init 8 = .ok (.newarray .byte, 2) := by decide +kernel
theorem d_Reg_init_10 : decode b_Reg_init 10 = .ok (.putfield 9, 3) := by decide +kernel
theorem d_Reg_init_13 : decode b_Reg_init 13 = .ok (.aload_n 0, 1) := by decide +kernel
theorem d_Reg_init_14 : decode b_Reg_init 14 = .ok (.iconst 0, 1) := by decide +kernel
theorem d_Reg_init_15 : decode b_Reg_init 15 = .ok (.putfield 15, 3) := by decide +kernel
theorem d_Reg_init_18 : decode b_Reg_init 18 = .ok (.aload_n 0, 1) := by decide +kernel
theorem d_Reg_init_19 : decode b_Reg_init 19 = .ok (.iconst 0, 1) := by decide +kernel
theorem d_Reg_init_20 : decode b_Reg_init 20 = .ok (.putfield 19, 3) := by decide +kernel
theorem d_Reg_init_23 : decode b_Reg_init 23 = .ok (.aload_n 0, 1) := by decide +kernel
theorem d_Reg_init_24 : decode b_Reg_init 24 = .ok (.iconst 0, 1) := by decide +kernel
theorem d_Reg_init_25 : decode b_Reg_init 25 = .ok (.putfield 22, 3) := by decide +kernel
theorem d_Reg_init_28 : decode b_Reg_init 28 = .ok (.return_, 1) := by decide +kernel
theorem d_Reg_begin_0 : decode b_Reg_begin 0 = .ok (.aload_n 0, 1) := by decide +kernel
theorem d_Reg_begin_1 : decode b_Reg_begin 1 = .ok (.iload_n 1, 1) := by decide +kernel
theorem d_Reg_begin_2 : decode b_Reg_begin 2 = .ok (.putfield 15, 3) := by decide +kernel
theorem d_Reg_begin_5 : decode b_Reg_begin 5 = .ok (.aload_n 0, 1) := by decide +kernel
theorem d_Reg_begin_6 : decode b_Reg_begin 6 = .ok (.iload_n 2, 1) := by decide +kernel
theorem d_Reg_begin_7 : decode b_Reg_begin 7 = .ok (.putfield 19, 3) := by decide +kernel
theorem d_Reg_begin_10 : decode b_Reg_begin 10 = .ok (.aload_n 0, 1) := by decide +kernel
theorem d_Reg_begin_11 : decode b_Reg_begin 11 = .ok (.iload_n 3, 1) := by decide +kernel
theorem d_Reg_begin_12 : decode b_Reg_begin 12 = .ok (.putfield 22, 3) := by decide +kernel
theorem d_Reg_begin_15 : decode b_Reg_begin 15 = .ok (.aload_n 0, 1) := by decide +kernel
theorem d_Reg_begin_16 : decode b_Reg_begin 16 = .ok (.getfield 9, 3) := by decide +kernel
theorem d_Reg_begin_19 : decode b_Reg_begin 19 = .ok (.iconst 0, 1) := by decide +kernel
theorem d_Reg_begin_20 : decode b_Reg_begin 20 = .ok (.invokestatic 25, 3) := by decide +kernel
theorem d_Reg_begin_23 : decode b_Reg_begin 23 = .ok (.return_, 1) := by decide +kernel
theorem d_Reg_has_0 : decode b_Reg_has 0 = .ok (.iload_n 1, 1) := by decide +kernel
theorem d_Reg_has_1 : decode b_Reg_has 1 = .ok (.aload_n 0, 1) := by decide +kernel
theorem d_Reg_has_2 : decode b_Reg_has 2 = .ok (.getfield 15, 3) := by decide +kernel
theorem d_Reg_has_5 : decode b_Reg_has 5 = .ok (.if_icmp .lt 20, 3) := by decide +kernel
theorem d_Reg_has_8 : decode b_Reg_has 8 = .ok (.iload_n 1, 1) := by decide +kernel
theorem d_Reg_has_9 : decode b_Reg_has 9 = .ok (.aload_n 0, 1) := by decide +kernel
theorem d_Reg_has_10 : decode b_Reg_has 10 = .ok (.getfield 15, 3) := by decide +kernel
theorem d_Reg_has_13 : decode b_Reg_has 13 = .ok (.isub, 1) := by decide +kernel
theorem d_Reg_has_14 : decode b_Reg_has 14 = .ok (.aload_n 0, 1) := by decide +kernel
theorem d_Reg_has_15 : decode b_Reg_has 15 = .ok (.getfield 19, 3) := by decide +kernel
theorem d_Reg_has_18 : decode b_Reg_has 18 = .ok (.if_icmp .ge 7, 3) := by decide +kernel
theorem d_Reg_has_21 : decode b_Reg_has 21 = .ok (.iconst 1, 1) := by decide +kernel
theorem d_Reg_has_22 : decode b_Reg_has 22 = .ok (.goto 4, 3) := by decide +kernel
theorem d_Reg_has_25 : decode b_Reg_has 25 = .ok (.iconst 0, 1) := by decide +kernel
theorem d_Reg_has_26 : decode b_Reg_has 26 = .ok (.ireturn, 1) := by decide +kernel
theorem d_Reg_read_0 : decode b_Reg_read 0 = .ok (.iload_n 1, 1) := by decide +kernel
theorem d_Reg_read_1 : decode b_Reg_read 1 = .ok (.ifCond .lt 12, 3) := by decide +kernel
theorem d_Reg_read_4 : decode b_Reg_read 4 = .ok (.iload_n 1, 1) := by decide +kernel
theorem d_Reg_read_5 : decode b_Reg_read 5 = .ok (.aload_n 0, 1) := by decide +kernel
theorem d_Reg_read_6 : decode b_Reg_read 6 = .ok (.getfield 9, 3) := by decide +kernel
theorem d_Reg_read_9 : decode b_Reg_read 9 = .ok (.arraylength, 1) := by decide +kernel
theorem d_Reg_read_10 : decode b_Reg_read 10 = .ok (.if_icmp .lt 7, 3) := by decide +kernel
theorem d_Reg_read_13 : decode b_Reg_read 13 = .ok (.iconst (-1), 1) := by decide +kernel
theorem d_Reg_read_14 : decode b_Reg_read 14 = .ok (.goto 13, 3) := by decide +kernel
theorem d_Reg_read_17 : decode b_Reg_read 17 = .ok (.aload_n 0, 1) := by decide +kernel
theorem d_Reg_read_18 : decode b_Reg_read 18 = .ok (.getfield 9, 3) := by decide +kernel
theorem d_Reg_read_21 : decode b_Reg_read 21 = .ok (.iload_n 1, 1) := by decide +kernel
theorem d_Reg_read_22 : decode b_Reg_read 22 = .ok (.baload, 1) := by decide +kernel
theorem d_Reg_read_23 : decode b_Reg_read 23 = .ok (.sipush 255, 3) := by decide +kernel
theorem d_Reg_read_26 : decode b_Reg_read 26 = .ok (.iand, 1) := by decide +kernel
theorem d_Reg_read_27 : decode b_Reg_read 27 = .ok (.ireturn, 1) := by decide +kernel
theorem d_Reg_write_0 : decode b_Reg_write 0 = .ok (.iload_n 1, 1) := by decide +kernel
theorem d_Reg_write_1 : decode b_Reg_write 1 = .ok (.ifCond .lt 20, 3) := by decide +kernel
theorem d_Reg_write_4 : decode b_Reg_write 4 = .ok (.iload_n 1, 1) := by decide +kernel
theorem d_Reg_write_5 : decode b_Reg_write 5 = .ok (.aload_n 0, 1) := by decide +kernel
theorem d_Reg_write_6 : decode b_Reg_write 6 = .ok (.getfield 9, 3) := by decide +kernel
theorem d_Reg_write_9 : decode b_Reg_write 9 = .ok (.arraylength, 1) := by decide +kernel
theorem d_Reg_write_10 : decode b_Reg_write 10 = .ok (.if_icmp .ge 11, 3) := by decide +kernel
theorem d_Reg_write_13 : decode b_Reg_write 13 = .ok (.aload_n 0, 1) := by decide +kernel
theorem d_Reg_write_14 : decode b_Reg_write 14 = .ok (.getfield 9, 3) := by decide +kernel
theorem d_Reg_write_17 : decode b_Reg_write 17 = .ok (.iload_n 1, 1) := by decide +kernel
theorem d_Reg_write_18 : decode b_Reg_write 18 = .ok (.iload_n 2, 1) := by decide +kernel
theorem d_Reg_write_19 : decode b_Reg_write 19 = .ok (.i2b, 1) := by decide +kernel
theorem d_Reg_write_20 : decode b_Reg_write 20 = .ok (.bastore, 1) := by decide +kernel
theorem d_Reg_write_21 : decode b_Reg_write 21 = .ok (.return_, 1) := by decide +kernel
theorem d_Reg_usedBytes_0 : decode b_Reg_usedBytes 0 = .ok (.aload_n 0, 1) := by decide +kernel
theorem d_Reg_usedBytes_1 : decode b_Reg_usedBytes 1 = .ok (.getfield 19, 3) := by decide +kernel
theorem d_Reg_usedBytes_4 : decode b_Reg_usedBytes 4 = .ok (.iconst 1, 1) := by decide +kernel
theorem d_Reg_usedBytes_5 : decode b_Reg_usedBytes 5 = .ok (.isub, 1) := by decide +kernel
theorem d_Reg_usedBytes_6 : decode b_Reg_usedBytes 6 = .ok (.istore_n 1, 1) := by decide +kernel
theorem d_Reg_usedBytes_7 : decode b_Reg_usedBytes 7 = .ok (.iload_n 1, 1) := by decide +kernel
theorem d_Reg_usedBytes_8 : decode b_Reg_usedBytes 8 = .ok (.ifCond .lt 27, 3) := by decide +kernel
theorem d_Reg_usedBytes_11 : decode b_Reg_usedBytes 11 = .ok (.aload_n 0, 1) := by decide +kernel
theorem d_Reg_usedBytes_12 : decode b_Reg_usedBytes 12 = .ok (.iload_n 1, 1) := by decide +kernel
theorem d_Reg_usedBytes_13 : decode b_Reg_usedBytes 13 = .ok (.invokevirtual 31, 3) := by decide +kernel
theorem d_Reg_usedBytes_16 : decode b_Reg_usedBytes 16 = .ok (.ifCond .eq 13, 3) := by decide +kernel
theorem d_Reg_usedBytes_19 : decode b_Reg_usedBytes 19 = .ok (.iload_n 1, 1) := by decide +kernel
theorem d_Reg_usedBytes_20 : decode b_Reg_usedBytes 20 = .ok (.bipush 64, 2) := by decide +kernel
theorem d_Reg_usedBytes_22 : decode b_Reg_usedBytes 22 = .ok (.idiv, 1) := by decide +kernel
theorem d_Reg_usedBytes_23 : decode b_Reg_usedBytes 23 = .ok (.iconst 1, 1) := by decide +kernel
theorem d_Reg_usedBytes_24 : decode b_Reg_usedBytes 24 = .ok (.iadd, 1) := by decide +kernel
theorem d_Reg_usedBytes_25 : decode b_Reg_usedBytes 25 = .ok (.bipush 64, 2) := by decide +kernel
theorem d_Reg_usedBytes_27 : decode b_Reg_usedBytes 27 = .ok (.imul, 1) := by decide +kernel
theorem d_Reg_usedBytes_28 : decode b_Reg_usedBytes 28 = .ok (.ireturn, 1) := by decide +kernel
theorem d_Reg_usedBytes_29 : decode b_Reg_usedBytes 29 = .ok (.iinc 1 (-1), 3) := by decide +kernel
theorem d_Reg_usedBytes_32 : decode b_Reg_usedBytes 32 = .ok (.goto (-25), 3) := by decide +kernel
theorem d_Reg_usedBytes_35 : decode b_Reg_usedBytes 35 = .ok (.iconst 0, 1) := by decide +kernel
theorem d_Reg_usedBytes_36 : decode b_Reg_usedBytes 36 = .ok (.ireturn, 1) := by decide +kernel
theorem d_Reg_search_0 : decode b_Reg_search 0 = .ok (.iload_n 2, 1) := by decide +kernel
theorem d_Reg_search_1 : decode b_Reg_search 1 = .ok (.aload_n 0, 1) := by decide +kernel
theorem d_Reg_search_2 : decode b_Reg_search 2 = .ok (.getfield 15, 3) := by decide +kernel
theorem d_Reg_search_5 : decode b_Reg_search 5 = .ok (.if_icmp .le 12, 3) := by decide +kernel
theorem d_Reg_search_8 : decode b_Reg_search 8 = .ok (.iload_n 2, 1) := by decide +kernel
theorem d_Reg_search_9 : decode b_Reg_search 9 = .ok (.aload_n 0, 1) := by decide +kernel
theorem d_Reg_search_10 : decode b_Reg_search 10 = .ok (.getfield 15, 3) := by decide +kernel
theorem d_Reg_search_13 : decode b_Reg_search 13 = .ok (.isub, 1) := by decide +kernel
theorem d_Reg_search_14 : decode b_Reg_search 14 = .ok (.goto 4, 3) := by decide +kernel
theorem d_Reg_search_17 : decode b_Reg_search 17 = .ok (.iconst 0, 1) := by decide +kernel
theorem d_Reg_search_18 : decode b_Reg_search 18 = .ok (.istore_n 3, 1) := by decide +kernel
theorem d_Reg_search_19 : decode b_Reg_search 19 = .ok (.iload_n 3, 1) := by decide +kernel
theorem d_Reg_search_20 : decode b_Reg_search 20 = .ok (.istore 4, 2) := by decide +kernel
theorem d_Reg_search_22 : decode b_Reg_search 22 = .ok (.iload 4, 2) := by decide +kernel
theorem d_Reg_search_24 : decode b_Reg_search 24 = .ok (.aload_n 0, 1) := by decide +kernel
theorem d_Reg_search_25 : decode b_Reg_search 25 = .ok (.getfield 19, 3) := by decide +kernel
theorem d_Reg_search_28 : decode b_Reg_search 28 = .ok (.iconst 4, 1) := by decide +kernel
theorem d_Reg_search_29 : decode b_Reg_search 29 = .ok (.isub, 1) := by decide +kernel
theorem d_Reg_search_30 : decode b_Reg_search 30 = .ok (.if_icmp .gt 27, 3) := by decide +kernel
theorem d_Reg_search_33 : decode b_Reg_search 33 = .ok (.aload_n 0, 1) := by decide +kernel
theorem d_Reg_search_34 : decode b_Reg_search 34 = .ok (.iload 4, 2) := by decide +kernel
theorem d_Reg_search_36 : decode b_Reg_search 36 = .ok (.invokevirtual 35, 3) := by decide +kernel
theorem d_Reg_search_39 : decode b_Reg_search 39 = .ok (.iload_n 1, 1) := by decide +kernel
theorem d_Reg_search_40 : decode b_Reg_search 40 = .ok (.if_icmp .ne 11, 3) := by decide +kernel
theorem d_Reg_search_43 : decode b_Reg_search 43 = .ok (.aload_n 0, 1) := by decide +kernel
theorem d_Reg_search_44 : decode b_Reg_search 44 = .ok (.getfield 15, 3) := by decide +kernel
theorem d_Reg_search_47 : decode b_Reg_search 47 = .ok (.iload 4, 2) := by decide +kernel
theorem d_Reg_search_49 : decode b_Reg_search 49 = .ok (.iadd, 1) := by decide +kernel
theorem d_Reg_search_50 : decode b_Reg_search 50 = .ok (.ireturn, 1) := by decide +kernel
theorem d_Reg_search_51 : decode b_Reg_search 51 = .ok (.iinc 4 1, 3) := by decide +kernel
theorem d_Reg_search_54 : decode b_Reg_search 54 = .ok (.goto (-32), 3) := by decide +kernel
theorem d_Reg_search_57 : decode b_Reg_search 57 = .ok (.iconst (-1), 1) := by decide +kernel
theorem d_Reg_search_58 : decode b_Reg_search 58 = .ok (.ireturn, 1) := by decide +kernel
theorem d_Reg_numberAt_0 : decode b_Reg_numberAt 0 = .ok (.aload_n 0, 1) := by decide +kernel
theorem d_Reg_numberAt_1 : decode b_Reg_numberAt 1 = .ok (.iload_n 1, 1) := by decide +kernel
theorem d_Reg_numberAt_2 : decode b_Reg_numberAt 2 = .ok (.invokevirtual 31, 3) := by decide +kernel
theorem d_Reg_numberAt_5 : decode b_Reg_numberAt 5 = .ok (.aload_n 0, 1) := by decide +kernel
theorem d_Reg_numberAt_6 : decode b_Reg_numberAt 6 = .ok (.iload_n 1, 1) := by decide +kernel
theorem d_Reg_numberAt_7 : decode b_Reg_numberAt 7 = .ok (.iconst 1, 1) := by decide +kernel
theorem d_Reg_numberAt_8 : decode b_Reg_numberAt 8 = .ok (.iadd, 1) := by decide +kernel
theorem d_Reg_numberAt_9 : decode b_Reg_numberAt 9 = .ok (.invokevirtual 31, 3) := by decide +kernel
theorem d_Reg_numberAt_12 : decode b_Reg_numberAt 12 = .ok (.bipush 8, 2) := by decide +kernel
theorem d_Reg_numberAt_14 : decode b_Reg_numberAt 14 = .ok (.ishl, 1) := by decide +kernel
theorem d_Reg_numberAt_15 : decode b_Reg_numberAt 15 = .ok (.ior, 1) := by decide +kernel
theorem d_Reg_numberAt_16 : decode b_Reg_numberAt 16 = .ok (.aload_n 0, 1) := by decide +kernel
theorem d_Reg_numberAt_17 : decode b_Reg_numberAt 17 = .ok (.iload_n 1, 1) := by decide +kernel
theorem d_Reg_numberAt_18 : decode b_Reg_numberAt 18 = .ok (.iconst 2, 1) := by decide +kernel
theorem d_Reg_numberAt_19 : decode b_Reg_numberAt 19 = .ok (.iadd, 1) := by decide +kernel
theorem d_Reg_numberAt_20 : decode b_Reg_numberAt 20 = .ok (.invokevirtual 31, 3) := by decide +kernel
theorem d_Reg_numberAt_23 : decode b_Reg_numberAt 23 = .ok (.bipush 16, 2) := by decide +kernel
theorem d_Reg_numberAt_25 : decode b_Reg_numberAt 25 = .ok (.ishl, 1) := by decide +kernel
theorem d_Reg_numberAt_26 : decode b_Reg_numberAt 26 = .ok (.ior, 1) := by decide +kernel
theorem d_Reg_numberAt_27 : decode b_Reg_numberAt 27 = .ok (.aload_n 0, 1) := by decide +kernel
theorem d_Reg_numberAt_28 : decode b_Reg_numberAt 28 = .ok (.iload_n 1, 1) := by decide +kernel
theorem d_Reg_numberAt_29 : decode b_Reg_numberAt 29 = .ok (.iconst 3, 1) := by decide +kernel
theorem d_Reg_numberAt_30 : decode b_Reg_numberAt 30 = .ok (.iadd, 1) := by decide +kernel
theorem d_Reg_numberAt_31 : decode b_Reg_numberAt 31 = .ok (.invokevirtual 31, 3) := by decide +kernel
theorem d_Reg_numberAt_34 : decode b_Reg_numberAt 34 = .ok (.bipush 24, 2) := by decide +kernel
theorem d_Reg_numberAt_36 : decode b_Reg_numberAt 36 = .ok (.ishl, 1) := by decide +kernel
theorem d_Reg_numberAt_37 : decode b_Reg_numberAt 37 = .ok (.ior, 1) := by decide +kernel
theorem d_Reg_numberAt_38 : decode b_Reg_numberAt 38 = .ok (.ireturn, 1) := by decide +kernel
theorem d_Tt_init_0 : decode b_Tt_init 0 = .ok (.aload_n 0, 1) := by decide +kernel
theorem d_Tt_init_1 : decode b_Tt_init 1 = .ok (.invokespecial 3, 3) := by decide +kernel
theorem d_Tt_init_4 : decode b_Tt_init 4 = .ok (.aload_n 0, 1) := by decide +kernel
theorem d_Tt_init_5 : decode b_Tt_init 5 = .ok (.iconst 3, 1) := by decide +kernel
theorem d_Tt_init_6 : decode b_Tt_init 6 = .ok (.newarray .int, 2) := by decide +kernel
theorem d_Tt_init_8 : decode b_Tt_init 8 = .ok (.putfield 9, 3) := by decide +kernel
theorem d_Tt_init_11 : decode b_Tt_init 11 = .ok (.aload_n 0, 1) := by decide +kernel
theorem d_Tt_init_12 : decode b_Tt_init 12 = .ok (.bipush 24, 2) := by decide +kernel
theorem d_Tt_init_14 : decode b_Tt_init 14 = .ok (.newarray .int, 2) := by decide +kernel
theorem d_Tt_init_16 : decode b_Tt_init 16 = .ok (.putfield 15, 3) := by decide +kernel
theorem d_Tt_init_19 : decode b_Tt_init 19 = .ok (.aload_n 0, 1) := by decide +kernel
theorem d_Tt_init_20 : decode b_Tt_init 20 = .ok (.iconst 0, 1) := by decide +kernel
theorem d_Tt_init_21 : decode b_Tt_init 21 = .ok (.putfield 18, 3) := by decide +kernel
theorem d_Tt_init_24 : decode b_Tt_init 24 = .ok (.return_, 1) := by decide +kernel
theorem d_Tt_count_0 : decode b_Tt_count 0 = .ok (.aload_n 0, 1) := by decide +kernel
theorem d_Tt_count_1 : decode b_Tt_count 1 = .ok (.getfield 18, 3) := by decide +kernel
theorem d_Tt_count_4 : decode b_Tt_count 4 = .ok (.ireturn, 1) := by decide +kernel
theorem d_Tt_clear_0 : decode b_Tt_clear 0 = .ok (.aload_n 0, 1) := by decide +kernel
theorem d_Tt_clear_1 : decode b_Tt_clear 1 = .ok (.iconst 0, 1) := by decide +kernel
theorem d_Tt_clear_2 : decode b_Tt_clear 2 = .ok (.putfield 18, 3) := by decide +kernel
theorem d_Tt_clear_5 : decode b_Tt_clear 5 = .ok (.aload_n 0, 1) := by decide +kernel
theorem d_Tt_clear_6 : decode b_Tt_clear 6 = .ok (.getfield 15, 3) := by decide +kernel
theorem d_Tt_clear_9 : decode b_Tt_clear 9 = .ok (.iconst 0, 1) := by decide +kernel
theorem d_Tt_clear_10 : decode b_Tt_clear 10 = .ok (.invokestatic 22, 3) := by decide +kernel
theorem d_Tt_clear_13 : decode b_Tt_clear 13 = .ok (.return_, 1) := by decide +kernel
theorem d_Tt_has_0 : decode b_Tt_has 0 = .ok (.iload_n 1, 1) := by decide +kernel
theorem d_Tt_has_1 : decode b_Tt_has 1 = .ok (.ifCond .lt 15, 3) := by decide +kernel
theorem d_Tt_has_4 : decode b_Tt_has 4 = .ok (.iload_n 1, 1) := by decide +kernel
theorem d_Tt_has_5 : decode b_Tt_has 5 = .ok (.aload_n 0, 1) := by decide +kernel
theorem d_Tt_has_6 : decode b_Tt_has 6 = .ok (.getfield 18, 3) := by decide +kernel
theorem d_Tt_has_9 : decode b_Tt_has 9 = .ok (.if_icmp .ge 7, 3) := by decide +kernel
theorem d_Tt_has_12 : decode b_Tt_has 12 = .ok (.iconst 1, 1) := by decide +kernel
theorem d_Tt_has_13 : decode b_Tt_has 13 = .ok (.goto 4, 3) := by decide +kernel
theorem d_Tt_has_16 : decode b_Tt_has 16 = .ok (.iconst 0, 1) := by decide +kernel
theorem d_Tt_has_17 : decode b_Tt_has 17 = .ok (.ireturn, 1) := by decide +kernel
theorem d_Tt_hasId_0 : decode b_Tt_hasId 0 = .ok (.iconst 0, 1) := by decide +kernel
theorem d_Tt_hasId_1 : decode b_Tt_hasId 1 = .ok (.istore_n 2, 1) := by decide +kernel
theorem d_Tt_hasId_2 : decode b_Tt_hasId 2 = .ok (.iload_n 2, 1) := by decide +kernel
theorem d_Tt_hasId_3 : decode b_Tt_hasId 3 = .ok (.aload_n 0, 1) := by decide +kernel
theorem d_Tt_hasId_4 : decode b_Tt_hasId 4 = .ok (.getfield 18, 3) := by decide +kernel
theorem d_Tt_hasId_7 : decode b_Tt_hasId 7 = .ok (.if_icmp .ge 21, 3) := by decide +kernel
theorem d_Tt_hasId_10 : decode b_Tt_hasId 10 = .ok (.aload_n 0, 1) := by decide +kernel
theorem d_Tt_hasId_11 : decode b_Tt_hasId 11 = .ok (.getfield 9, 3) := by decide +kernel
theorem d_Tt_hasId_14 : decode b_Tt_hasId 14 = .ok (.iload_n 2, 1) := by decide +kernel
theorem d_Tt_hasId_15 : decode b_Tt_hasId 15 = .ok (.iaload, 1) := by decide +kernel
theorem d_Tt_hasId_16 : decode b_Tt_hasId 16 = .ok (.iload_n 1, 1) := by decide +kernel
theorem d_Tt_hasId_17 : decode b_Tt_hasId 17 = .ok (.if_icmp .ne 5, 3) := by decide +kernel
theorem d_Tt_hasId_20 : decode b_Tt_hasId 20 = .ok (.iconst 1, 1) := by decide +kernel
theorem d_Tt_hasId_21 : decode b_Tt_hasId 21 = .ok (.ireturn, 1) := by decide +kernel
theorem d_Tt_hasId_22 : decode b_Tt_hasId 22 = .ok (.iinc 2 1, 3) := by decide +kernel
theorem d_Tt_hasId_25 : decode b_Tt_hasId 25 = .ok (.goto (-23), 3) := by decide +kernel
theorem d_Tt_hasId_28 : decode b_Tt_hasId 28 = .ok (.iconst 0, 1) := by decide +kernel
theorem d_Tt_hasId_29 : decode b_Tt_hasId 29 = .ok (.ireturn, 1) := by decide +kernel
theorem d_Tt_add_0 : decode b_Tt_add 0 = .ok (.aload_n 0, 1) := by decide +kernel
theorem d_Tt_add_1 : decode b_Tt_add 1 = .ok (.getfield 18, 3) := by decide +kernel
theorem d_Tt_add_4 : decode b_Tt_add 4 = .ok (.iconst 3, 1) := by decide +kernel
theorem d_Tt_add_5 : decode b_Tt_add 5 = .ok (.if_icmp .ge 11, 3) := by decide +kernel
theorem d_Tt_add_8 : decode b_Tt_add 8 = .ok (.aload_n 0, 1) := by decide +kernel
theorem d_Tt_add_9 : decode b_Tt_add 9 = .ok (.iload_n 1, 1) := by decide +kernel
theorem d_Tt_add_10 : decode b_Tt_add 10 = .ok (.invokevirtual 28, 3) := by decide +kernel
theorem d_Tt_add_13 : decode b_Tt_add 13 = .ok (.ifCond .eq 5, 3) := by decide +kernel
theorem d_Tt_add_16 : decode b_Tt_add 16 = .ok (.iconst (-1), 1) := by decide +kernel
theorem d_Tt_add_17 : decode b_Tt_add 17 = .ok (.ireturn, 1) := by decide +kernel
theorem d_Tt_add_18 : decode b_Tt_add 18 = .ok (.aload_n 0, 1) := by decide +kernel
theorem d_Tt_add_19 : decode b_Tt_add 19 = .ok (.getfield 9, 3) := by decide +kernel
theorem d_Tt_add_22 : decode b_Tt_add 22 = .ok (.aload_n 0, 1) := by decide +kernel
theorem d_Tt_add_23 : decode b_Tt_add 23 = .ok (.getfield 18, 3) := by decide +kernel
theorem d_Tt_add_26 : decode b_Tt_add 26 = .ok (.iload_n 1, 1) := by decide +kernel
theorem d_Tt_add_27 : decode b_Tt_add 27 = .ok (.iastore, 1) := by decide +kernel
theorem d_Tt_add_28 : decode b_Tt_add 28 = .ok (.aload_n 0, 1) := by decide +kernel
theorem d_Tt_add_29 : decode b_Tt_add 29 = .ok (.dup, 1) := by decide +kernel
theorem d_Tt_add_30 : decode b_Tt_add 30 = .ok (.getfield 18, 3) := by decide +kernel
theorem d_Tt_add_33 : decode b_Tt_add 33 = .ok (.iconst 1, 1) := by decide +kernel
theorem d_Tt_add_34 : decode b_Tt_add 34 = .ok (.iadd, 1) := by decide +kernel
theorem d_Tt_add_35 : decode b_Tt_add 35 = .ok (.putfield 18, 3) := by decide +kernel
theorem d_Tt_add_38 : decode b_Tt_add 38 = .ok (.aload_n 0, 1) := by decide +kernel
theorem d_Tt_add_39 : decode b_Tt_add 39 = .ok (.getfield 18, 3) := by decide +kernel
theorem d_Tt_add_42 : decode b_Tt_add 42 = .ok (.iconst 1, 1) := by decide +kernel
theorem d_Tt_add_43 : decode b_Tt_add 43 = .ok (.isub, 1) := by decide +kernel
theorem d_Tt_add_44 : decode b_Tt_add 44 = .ok (.ireturn, 1) := by decide +kernel
theorem d_Tt_id_0 : decode b_Tt_id 0 = .ok (.aload_n 0, 1) := by decide +kernel
theorem d_Tt_id_1 : decode b_Tt_id 1 = .ok (.iload_n 1, 1) := by decide +kernel
theorem d_Tt_id_2 : decode b_Tt_id 2 = .ok (.invokevirtual 32, 3) := by decide +kernel
theorem d_Tt_id_5 : decode b_Tt_id 5 = .ok (.ifCond .eq 12, 3) := by decide +kernel
theorem d_Tt_id_8 : decode b_Tt_id 8 = .ok (.aload_n 0, 1) := by decide +kernel
theorem d_Tt_id_9 : decode b_Tt_id 9 = .ok (.getfield 9, 3) := by decide +kernel
theorem d_Tt_id_12 : decode b_Tt_id 12 = .ok (.iload_n 1, 1) := by decide +kernel
theorem d_Tt_id_13 : decode b_Tt_id 13 = .ok (.iaload, 1) := by decide +kernel
theorem d_Tt_id_14 : decode b_Tt_id 14 = .ok (.goto 4, 3) := by decide +kernel
theorem d_Tt_id_17 : decode b_Tt_id 17 = .ok (.iconst 0, 1) := by decide +kernel
theorem d_Tt_id_18 : decode b_Tt_id 18 = .ok (.ireturn, 1) := by decide +kernel
theorem d_Tt_read_0 : decode b_Tt_read 0 = .ok (.aload_n 0, 1) := by decide +kernel
theorem d_Tt_read_1 : decode b_Tt_read 1 = .ok (.iload_n 1, 1) := by decide +kernel
theorem d_Tt_read_2 : decode b_Tt_read 2 = .ok (.iload_n 2, 1) := by decide +kernel
theorem d_Tt_read_3 : decode b_Tt_read 3 = .ok (.invokevirtual 35, 3) := by decide +kernel
theorem d_Tt_read_6 : decode b_Tt_read 6 = .ok (.ifCond .eq 17, 3) := by decide +kernel
theorem d_Tt_read_9 : decode b_Tt_read 9 = .ok (.aload_n 0, 1) := by decide +kernel
theorem d_Tt_read_10 : decode b_Tt_read 10 = .ok (.getfield 15, 3) := by decide +kernel
theorem d_Tt_read_13 : decode b_Tt_read 13 = .ok (.iload_n 1, 1) := by decide +kernel
theorem d_Tt_read_14 : decode b_Tt_read 14 = .ok (.bipush 8, 2) := by decide +kernel
theorem d_Tt_read_16 : decode b_Tt_read 16 = .ok (.imul, 1) := by decide +kernel
theorem d_Tt_read_17 : decode b_Tt_read 17 = .ok (.iload_n 2, 1) := by decide +kernel
theorem d_Tt_read_18 : decode b_Tt_read 18 = .ok (.iadd, 1) := by decide +kernel
theorem d_Tt_read_19 : decode b_Tt_read 19 = .ok (.iaload, 1) := by decide +kernel
theorem d_Tt_read_20 : decode b_Tt_read 20 = .ok (.goto 4, 3) := by decide +kernel
theorem d_Tt_read_23 : decode b_Tt_read 23 = .ok (.iconst 0, 1) := by decide +kernel
theorem d_Tt_read_24 : decode b_Tt_read 24 = .ok (.ireturn, 1) := by decide +kernel
theorem d_Tt_write_0 : decode b_Tt_write 0 = .ok (.aload_n 0, 1) := by decide +kernel
theorem d_Tt_write_1 : decode b_Tt_write 1 = .ok (.iload_n 1, 1) := by decide +kernel
theorem d_Tt_write_2 : decode b_Tt_write 2 = .ok (.iload_n 2, 1) := by decide +kernel
theorem d_Tt_write_3 : decode b_Tt_write 3 = .ok (.invokevirtual 35, 3) := by decide +kernel
theorem d_Tt_write_6 : decode b_Tt_write 6 = .ok (.ifCond .ne 5, 3) := by decide +kernel
theorem d_Tt_write_9 : decode b_Tt_write 9 = .ok (.iconst 0, 1) := by decide +kernel
theorem d_Tt_write_10 : decode b_Tt_write 10 = .ok (.ireturn, 1) := by decide +kernel
theorem d_Tt_write_11 : decode b_Tt_write 11 = .ok (.aload_n 0, 1) := by decide +kernel
theorem d_Tt_write_12 : decode b_Tt_write 12 = .ok (.getfield 15, 3) := by decide +kernel
theorem d_Tt_write_15 : decode b_Tt_write 15 = .ok (.iload_n 1, 1) := by decide +kernel
theorem d_Tt_write_16 : decode b_Tt_write 16 = .ok (.bipush 8, 2) := by decide +kernel
theorem d_Tt_write_18 : decode b_Tt_write 18 = .ok (.imul, 1) := by decide +kernel
theorem d_Tt_write_19 : decode b_Tt_write 19 = .ok (.iload_n 2, 1) := by decide +kernel
theorem d_Tt_write_20 : decode b_Tt_write 20 = .ok (.iadd, 1) := by decide +kernel
theorem d_Tt_write_21 : decode b_Tt_write 21 = .ok (.iload_n 3, 1) := by decide +kernel
theorem d_Tt_write_22 : decode b_Tt_write 22 = .ok (.iastore, 1) := by decide +kernel
theorem d_Tt_write_23 : decode b_Tt_write 23 = .ok (.iconst 1, 1) := by decide +kernel
theorem d_Tt_write_24 : decode b_Tt_write 24 = .ok (.ireturn, 1) := by decide +kernel
theorem d_Tt_become_0 : decode b_Tt_become 0 = .ok (.aload_n 1, 1) := by decide +kernel
theorem d_Tt_become_1 : decode b_Tt_become 1 = .ok (.getfield 9, 3) := by decide +kernel
theorem d_Tt_become_4 : decode b_Tt_become 4 = .ok (.iconst 0, 1) := by decide +kernel
theorem d_Tt_become_5 : decode b_Tt_become 5 = .ok (.aload_n 0, 1) := by decide +kernel
theorem d_Tt_become_6 : decode b_Tt_become 6 = .ok (.getfield 9, 3) := by decide +kernel
theorem d_Tt_become_9 : decode b_Tt_become 9 = .ok (.iconst 0, 1) := by decide +kernel
theorem d_Tt_become_10 : decode b_Tt_become 10 = .ok (.iconst 3, 1) := by decide +kernel
theorem d_Tt_become_11 : decode b_Tt_become 11 = .ok (.invokestatic 39, 3) := by decide +kernel
theorem d_Tt_become_14 : decode b_Tt_become 14 = .ok (.aload_n 1, 1) := by decide +kernel
theorem d_Tt_become_15 : decode b_Tt_become 15 = .ok (.getfield 15, 3) := by decide +kernel
theorem d_Tt_become_18 : decode b_Tt_become 18 = .ok (.iconst 0, 1) := by decide +kernel
theorem d_Tt_become_19 : decode b_Tt_become 19 = .ok (.aload_n 0, 1) := by decide +kernel
theorem d_Tt_become_20 : decode b_Tt_become 20 = .ok (.getfield 15, 3) := by decide +kernel
theorem d_Tt_become_23 : decode b_Tt_become 23 = .ok (.iconst 0, 1) := by decide +kernel
theorem d_Tt_become_24 : decode b_Tt_become 24 = .ok (.bipush 24, 2) := by decide +kernel
theorem d_Tt_become_26 : decode b_Tt_become 26 = .ok (.invokestatic 39, 3) := by decide +kernel
theorem d_Tt_become_29 : decode b_Tt_become 29 = .ok (.aload_n 0, 1) := by decide +kernel
theorem d_Tt_become_30 : decode b_Tt_become 30 = .ok (.aload_n 1, 1) := by decide +kernel
theorem d_Tt_become_31 : decode b_Tt_become 31 = .ok (.getfield 18, 3) := by decide +kernel
theorem d_Tt_become_34 : decode b_Tt_become 34 = .ok (.putfield 18, 3) := by decide +kernel
theorem d_Tt_become_37 : decode b_Tt_become 37 = .ok (.return_, 1) := by decide +kernel
theorem d_Tt_hasValue_0 : decode b_Tt_hasValue 0 = .ok (.aload_n 0, 1) := by decide +kernel
theorem d_Tt_hasValue_1 : decode b_Tt_hasValue 1 = .ok (.iload_n 1, 1) := by decide +kernel
theorem d_Tt_hasValue_2 : decode b_Tt_hasValue 2 = .ok (.invokevirtual 32, 3) := by decide +kernel
theorem d_Tt_hasValue_5 : decode b_Tt_hasValue 5 = .ok (.ifCond .eq 17, 3) := by decide +kernel
theorem d_Tt_hasValue_8 : decode b_Tt_hasValue 8 = .ok (.iload_n 2, 1) := by decide +kernel
theorem d_Tt_hasValue_9 : decode b_Tt_hasValue 9 = .ok (.ifCond .lt 13, 3) := by decide +kernel
theorem d_Tt_hasValue_12 : decode b_Tt_hasValue 12 = .ok (.iload_n 2, 1) := by decide +kernel
theorem d_Tt_hasValue_13 : decode b_Tt_hasValue 13 = .ok (.bipush 8, 2) := by decide +kernel
theorem d_Tt_hasValue_15 : decode b_Tt_hasValue 15 = .ok (.if_icmp .ge 7, 3) := by decide +kernel
theorem d_Tt_hasValue_18 : decode b_Tt_hasValue 18 = .ok (.iconst 1, 1) := by decide +kernel
theorem d_Tt_hasValue_19 : decode b_Tt_hasValue 19 = .ok (.goto 4, 3) := by decide +kernel
theorem d_Tt_hasValue_22 : decode b_Tt_hasValue 22 = .ok (.iconst 0, 1) := by decide +kernel
theorem d_Tt_hasValue_23 : decode b_Tt_hasValue 23 = .ok (.ireturn, 1) := by decide +kernel
theorem d_Mem_init_0 : decode b_Mem_init 0 = .ok (.aload_n 0, 1) := by decide +kernel
theorem d_Mem_init_1 : decode b_Mem_init 1 = .ok (.invokespecial 3, 3) := by decide +kernel
theorem d_Mem_init_4 : decode b_Mem_init 4 = .ok (.aload_n 0, 1) := by decide +kernel
theorem d_Mem_init_5 : decode b_Mem_init 5 = .ok (.bipush 6, 2) := by decide +kernel
theorem d_Mem_init_7 : decode b_Mem_init 7 = .ok (.anewarray 9, 3) := by decide +kernel
theorem d_Mem_init_10 : decode b_Mem_init 10 = .ok (.putfield 11, 3) := by decide +kernel
theorem d_Mem_init_13 : decode b_Mem_init 13 = .ok (.iconst 0, 1) := by decide +kernel
theorem d_Mem_init_14 : decode b_Mem_init 14 = .ok (.istore_n 1, 1) := by decide +kernel
theorem d_Mem_init_15 : decode b_Mem_init 15 = .ok (.iload_n 1, 1) := by decide +kernel
theorem d_Mem_init_16 : decode b_Mem_init 16 = .ok (.bipush 6, 2) := by decide +kernel
theorem d_Mem_init_18 : decode b_Mem_init 18 = .ok (.if_icmp .ge 22, 3) := by decide +kernel
theorem d_Mem_init_21 : decode b_Mem_init 21 = .ok (.aload_n 0, 1) := by decide +kernel
theorem d_Mem_init_22 : decode b_Mem_init 22 = .ok (.getfield 11, 3) := by decide +kernel
theorem d_Mem_init_25 : decode b_Mem_init 25 = .ok (.iload_n 1, 1) := by decide +kernel
theorem d_Mem_init_26 : decode b_Mem_init 26 = .ok (.new 9, 3) := by decide +kernel
theorem d_Mem_init_29 : decode b_Mem_init 29 = .ok (.dup, 1) := by decide +kernel
theorem d_Mem_init_30 : decode b_Mem_init 30 = .ok (.invokespecial 17, 3) := by decide +kernel
theorem d_Mem_init_33 : decode b_Mem_init 33 = .ok (.aastore, 1) := by decide +kernel
theorem d_Mem_init_34 : decode b_Mem_init 34 = .ok (.iinc 1 1, 3) := by decide +kernel
theorem d_Mem_init_37 : decode b_Mem_init 37 = .ok (.goto (-22), 3) := by decide +kernel
theorem d_Mem_init_40 : decode b_Mem_init 40 = .ok (.aload_n 0, 1) := by decide +kernel
theorem d_Mem_init_41 : decode b_Mem_init 41 = .ok (.iconst 0, 1) := by decide +kernel
theorem d_Mem_init_42 : decode b_Mem_init 42 = .ok (.putfield 18, 3) := by decide +kernel
theorem d_Mem_init_45 : decode b_Mem_init 45 = .ok (.return_, 1) := by decide +kernel
theorem d_Mem_count_0 : decode b_Mem_count 0 = .ok (.aload_n 0, 1) := by decide +kernel
theorem d_Mem_count_1 : decode b_Mem_count 1 = .ok (.getfield 18, 3) := by decide +kernel
theorem d_Mem_count_4 : decode b_Mem_count 4 = .ok (.ireturn, 1) := by decide +kernel
theorem d_Mem_clear_0 : decode b_Mem_clear 0 = .ok (.aload_n 0, 1) := by decide +kernel
theorem d_Mem_clear_1 : decode b_Mem_clear 1 = .ok (.iconst 0, 1) := by decide +kernel
theorem d_Mem_clear_2 : decode b_Mem_clear 2 = .ok (.putfield 18, 3) := by decide +kernel
theorem d_Mem_clear_5 : decode b_Mem_clear 5 = .ok (.return_, 1) := by decide +kernel
theorem d_Mem_addRegion_0 : decode b_Mem_addRegion 0 = .ok (.aload_n 0, 1) := by decide +kernel
theorem d_Mem_addRegion_1 : decode b_Mem_addRegion 1 = .ok (.getfield 18, 3) := by decide +kernel
theorem d_Mem_addRegion_4 : decode b_Mem_addRegion 4 = .ok (.bipush 6, 2) := by decide +kernel
theorem d_Mem_addRegion_6 : decode b_Mem_addRegion 6 = .ok (.if_icmp .ge 21, 3) := by decide +kernel
theorem d_Mem_addRegion_9 : decode b_Mem_addRegion 9 = .ok (.iload_n 1, 1) := by decide +kernel
theorem d_Mem_addRegion_10 : decode b_Mem_addRegion 10 = .ok (.iload_n 2, 1) := by decide +kernel
theorem d_Mem_addRegion_11 : decode b_Mem_addRegion 11 = .ok (.invokestatic 22, 3) := by decide +kernel
theorem d_Mem_addRegion_14 : decode b_Mem_addRegion 14 = .ok (.ifCond .eq 13, 3) := by decide +kernel
theorem d_Mem_addRegion_17 : decode b_Mem_addRegion 17 = .ok (.iload_n 3, 1) := by decide +kernel
theorem d_Mem_addRegion_18 : decode b_Mem_addRegion 18 = .ok (.ifCond .lt 9, 3) := by decide +kernel
theorem d_Mem_addRegion_21 : decode b_Mem_addRegion 21 = .ok (.iload_n 3, 1) := by decide +kernel
theorem d_Mem_addRegion_22 : decode b_Mem_addRegion 22 = .ok (.bipush 7, 2) := by decide +kernel
theorem d_Mem_addRegion_24 : decode b_Mem_addRegion 24 = .ok (.if_icmp .le 5, 3) := by decide +kernel
theorem d_Mem_addRegion_27 : decode b_Mem_addRegion 27 = .ok (.iconst 0, 1) := by decide +kernel
theorem d_Mem_addRegion_28 : decode b_Mem_addRegion 28 = .ok (.ireturn, 1) := by decide +kernel
theorem d_Mem_addRegion_29 : decode b_Mem_addRegion 29 = .ok (.iconst 0, 1) := by decide +kernel
theorem d_Mem_addRegion_30 : decode b_Mem_addRegion 30 = .ok (.istore 4, 2) := by decide +kernel
theorem d_Mem_addRegion_32 : decode b_Mem_addRegion 32 = .ok (.iconst 0, 1) := by decide +kernel
theorem d_Mem_addRegion_33 : decode b_Mem_addRegion 33 = .ok (.istore 5, 2) := by decide +kernel
theorem d_Mem_addRegion_35 : decode b_Mem_addRegion 35 = .ok (.iload 5, 2) := by decide +kernel
theorem d_Mem_addRegion_37 : decode b_Mem_addRegion 37 = .ok (.aload_n 0, 1) := by decide +kernel
theorem d_Mem_addRegion_38 : decode b_Mem_addRegion 38 = .ok (.getfield 18, 3) := by decide +kernel
theorem d_Mem_addRegion_41 : decode b_Mem_addRegion 41 = .ok (.if_icmp .ge 59, 3) := by decide +kernel
theorem d_Mem_addRegion_44 : decode b_Mem_addRegion 44 = .ok (.iload_n 1, 1) := by decide +kernel
theorem d_Mem_addRegion_45 : decode b_Mem_addRegion 45 = .ok (.iload_n 2, 1) := by decide +kernel
theorem d_Mem_addRegion_46 : decode b_Mem_addRegion 46 = .ok (.aload_n 0, 1) := by decide +kernel
theorem d_Mem_addRegion_47 : decode b_Mem_addRegion 47 = .ok (.getfield 11, 3) := by decide +kernel
theorem d_Mem_addRegion_50 : decode b_Mem_addRegion 50 = .ok (.iload 5, 2) := by decide +kernel
theorem d_Mem_addRegion_52 : decode b_Mem_addRegion 52 = .ok (.aaload, 1) := by decide +kernel
theorem d_Mem_addRegion_53 : decode b_Mem_addRegion 53 = .ok (.getfield 26, 3) := by decide +kernel
theorem d_Mem_addRegion_56 : decode b_Mem_addRegion 56 = .ok (.aload_n 0, 1) := by decide +kernel
theorem d_Mem_addRegion_57 : decode b_Mem_addRegion 57 = .ok (.getfield 11, 3) := by decide +kernel
theorem d_Mem_addRegion_60 : decode b_Mem_addRegion 60 = .ok (.iload 5, 2) := by decide +kernel
theorem d_Mem_addRegion_62 : decode b_Mem_addRegion 62 = .ok (.aaload, 1) := by decide +kernel
theorem d_Mem_addRegion_63 : decode b_Mem_addRegion 63 = .ok (.getfield 29, 3) := by decide +kernel
theorem d_Mem_addRegion_66 : decode b_Mem_addRegion 66 = .ok (.invokestatic 32, 3) := by decide +kernel
theorem d_Mem_addRegion_69 : decode b_Mem_addRegion 69 = .ok (.ifCond .eq 5, 3) := by decide +kernel
theorem d_Mem_addRegion_72 : decode b_Mem_addRegion 72 = .ok (.iconst 0, 1) := by decide +kernel
theorem d_Mem_addRegion_73 : decode b_Mem_addRegion 73 = .ok (.ireturn, 1) := by decide +kernel
theorem d_Mem_addRegion_74 : decode b_Mem_addRegion 74 = .ok (.aload_n 0, 1) := by decide +kernel
theorem d_Mem_addRegion_75 : decode b_Mem_addRegion 75 = .ok (.getfield 11, 3) := by decide +kernel
theorem d_Mem_addRegion_78 : decode b_Mem_addRegion 78 = .ok (.iload 5, 2) := by decide +kernel
theorem d_Mem_addRegion_80 : decode b_Mem_addRegion 80 = .ok (.aaload, 1) := by decide +kernel
theorem d_Mem_addRegion_81 : decode b_Mem_addRegion 81 = .ok (.getfield 26, 3) := by decide +kernel
theorem d_Mem_addRegion_84 : decode b_Mem_addRegion 84 = .ok (.iload_n 1, 1) := by decide +kernel
theorem d_Mem_addRegion_85 : decode b_Mem_addRegion 85 = .ok (.if_icmp .ge 9, 3) := by decide +kernel
theorem d_Mem_addRegion_88 : decode b_Mem_addRegion 88 = .ok (.iload 5, 2) := by decide +kernel
theorem d_Mem_addRegion_90 : decode b_Mem_addRegion 90 = .ok (.iconst 1, 1) := by decide +kernel
theorem d_Mem_addRegion_91 : decode b_Mem_addRegion 91 = .ok (.iadd, 1) := by decide +kernel
theorem d_Mem_addRegion_92 : decode b_Mem_addRegion 92 = .ok (.istore 4, 2) := by decide +kernel
theorem d_Mem_addRegion_94 : decode b_Mem_addRegion 94 = .ok (.iinc 5 1, 3) := by decide +kernel
theorem d_Mem_addRegion_97 : decode b_Mem_addRegion 97 = .ok (.goto (-62), 3) := by decide +kernel
theorem d_Mem_addRegion_100 : decode b_Mem_addRegion 100 = .ok (.aload_n 0, 1) := by decide +kernel
theorem d_Mem_addRegion_101 : decode b_Mem_addRegion 101 = .ok (.getfield 11, 3) := by decide +kernel
theorem d_Mem_addRegion_104 : decode b_Mem_addRegion 104 = .ok (.aload_n 0, 1) := by decide +kernel
theorem d_Mem_addRegion_105 : decode b_Mem_addRegion 105 = .ok (.getfield 18, 3) := by decide +kernel
theorem d_Mem_addRegion_108 : decode b_Mem_addRegion 108 = .ok (.aaload, 1) := by decide +kernel
theorem d_Mem_addRegion_109 : decode b_Mem_addRegion 109 = .ok (.astore 5, 2) := by decide +kernel
theorem d_Mem_addRegion_111 : decode b_Mem_addRegion 111 = .ok (.aload_n 0, 1) := by decide +kernel
theorem d_Mem_addRegion_112 : decode b_Mem_addRegion 112 = .ok (.getfield 18, 3) := by decide +kernel
theorem d_Mem_addRegion_115 : decode b_Mem_addRegion 115 = .ok (.istore 6, 2) := by decide +kernel
theorem d_Mem_addRegion_117 : decode b_Mem_addRegion 117 = .ok (.iload 6, 2) := by decide +kernel
theorem d_Mem_addRegion_119 : decode b_Mem_addRegion 119 = .ok (.iload 4, 2) := by decide +kernel
theorem d_Mem_addRegion_121 : decode b_Mem_addRegion 121 = .ok (.if_icmp .le 25, 3) := by decide +kernel
theorem d_Mem_addRegion_124 : decode b_Mem_addRegion 124 = .ok (.aload_n 0, 1) := by decide +kernel
theorem d_Mem_addRegion_125 : decode b_Mem_addRegion 125 = .ok (.getfield 11, 3) := by decide +kernel
theorem d_Mem_addRegion_128 : decode b_Mem_addRegion 128 = .ok (.iload 6, 2) := by decide +kernel
theorem d_Mem_addRegion_130 : decode b_Mem_addRegion 130 = .ok (.aload_n 0, 1) := by decide +kernel
theorem d_Mem_addRegion_131 : decode b_Mem_addRegion 131 = .ok (.getfield 11, 3) := by decide +kernel
theorem d_Mem_addRegion_134 : decode b_Mem_addRegion 134 = .ok (.iload 6, 2) := by decide +kernel
theorem d_Mem_addRegion_136 : decode b_Mem_addRegion 136 = .ok (.iconst 1, 1) := by decide +kernel
theorem d_Mem_addRegion_137 : decode b_Mem_addRegion 137 = .ok (.isub, 1) := by decide +kernel
theorem d_Mem_addRegion_138 : decode b_Mem_addRegion 138 = .ok (.aaload, 1) := by decide +kernel
theorem d_Mem_addRegion_139 : decode b_Mem_addRegion 139 = .ok (.aastore, 1) := by decide +kernel
theorem d_Mem_addRegion_140 : decode b_Mem_addRegion 140 = .ok (.iinc 6 (-1), 3) := by decide +kernel
theorem d_Mem_addRegion_143 : decode b_Mem_addRegion 143 = .ok (.goto (-26), 3) := by decide +kernel
theorem d_Mem_addRegion_146 : decode b_Mem_addRegion 146 = .ok (.aload_n 0, 1) := by decide +kernel
theorem d_Mem_addRegion_147 : decode b_Mem_addRegion 147 = .ok (.getfield 11, 3) := by decide +kernel
theorem d_Mem_addRegion_150 : decode b_Mem_addRegion 150 = .ok (.iload 4, 2) := by decide +kernel
theorem d_Mem_addRegion_152 : decode b_Mem_addRegion 152 = .ok (.aload 5, 2) := by decide +kernel
theorem d_Mem_addRegion_154 : decode b_Mem_addRegion 154 = .ok (.aastore, 1) := by decide +kernel
theorem d_Mem_addRegion_155 : decode b_Mem_addRegion 155 = .ok (.aload 5, 2) := by decide +kernel
theorem d_Mem_addRegion_157 : decode b_Mem_addRegion 157 = .ok (.iload_n 1, 1) := by decide +kernel
theorem d_Mem_addRegion_158 : decode b_Mem_addRegion 158 = .ok (.iload_n 2, 1) := by decide +kernel
theorem d_Mem_addRegion_159 : decode b_Mem_addRegion 159 = .ok (.iload_n 3, 1) := by decide +kernel
theorem d_Mem_addRegion_160 : decode b_Mem_addRegion 160 = .ok (.invokevirtual 36, 3) := by decide +kernel
theorem d_Mem_addRegion_163 : decode b_Mem_addRegion 163 = .ok (.aload_n 0, 1) := by decide +kernel
theorem d_Mem_addRegion_164 : decode b_Mem_addRegion 164 = .ok (.dup, 1) := by decide +kernel
theorem d_Mem_addRegion_165 : decode b_Mem_addRegion 165 = .ok (.getfield 18, 3) := by decide +kernel
theorem d_Mem_addRegion_168 : decode b_Mem_addRegion 168 = .ok (.iconst 1, 1) := by decide +kernel
theorem d_Mem_addRegion_169 : decode b_Mem_addRegion 169 = .ok (.iadd, 1) := by decide +kernel
theorem d_Mem_addRegion_170 : decode b_Mem_addRegion 170 = .ok (.putfield 18, 3) := by decide +kernel
theorem d_Mem_addRegion_173 : decode b_Mem_addRegion 173 = .ok (.iconst 1, 1) := by decide +kernel
theorem d_Mem_addRegion_174 : decode b_Mem_addRegion 174 = .ok (.ireturn, 1) := by decide +kernel
theorem d_Mem_removeRegion_0 : decode b_Mem_removeRegion 0 = .ok (.aload_n 0, 1) := by decide +kernel
theorem d_Mem_removeRegion_1 : decode b_Mem_removeRegion 1 = .ok (.iload_n 1, 1) := by decide +kernel
theorem d_Mem_removeRegion_2 : decode b_Mem_removeRegion 2 = .ok (.invokevirtual 40, 3) := by decide +kernel
theorem d_Mem_removeRegion_5 : decode b_Mem_removeRegion 5 = .ok (.istore_n 2, 1) := by decide +kernel
theorem d_Mem_removeRegion_6 : decode b_Mem_removeRegion 6 = .ok (.iload_n 2, 1) := by decide +kernel
theorem d_Mem_removeRegion_7 : decode b_Mem_removeRegion 7 = .ok (.iconst (-1), 1) := by decide +kernel
theorem d_Mem_removeRegion_8 : decode b_Mem_removeRegion 8 = .ok (.if_icmp .eq 16, 3) := by decide +kernel
theorem d_Mem_removeRegion_11 : decode b_Mem_removeRegion 11 = .ok (.aload_n 0, 1) := by decide +kernel
theorem d_Mem_removeRegion_12 : decode b_Mem_removeRegion 12 = .ok (.getfield 11, 3) := by decide +kernel
theorem d_Mem_removeRegion_15 : decode b_Mem_removeRegion 15 = .ok (.iload_n 2, 1) := by decide +kernel
theorem d_Mem_removeRegion_16 : decode b_Mem_removeRegion 16 = .ok (.aaload, 1) := by decide +kernel
theorem d_Mem_removeRegion_17 : decode b_Mem_removeRegion 17 = .ok (.getfield 26, 3) := by decide +kernel
theorem d_Mem_removeRegion_20 : decode b_Mem_removeRegion 20 = .ok (.iload_n 1, 1) := by decide +kernel
theorem d_Mem_removeRegion_21 : decode b_Mem_removeRegion 21 = .ok (.if_icmp .eq 5, 3) := by decide +kernel
theorem d_Mem_removeRegion_24 : decode b_Mem_removeRegion 24 = .ok (.iconst 0, 1) := by decide +kernel
theorem d_Mem_removeRegion_25 : decode b_Mem_removeRegion 25 = .ok (.ireturn, 1) := by decide +kernel
theorem d_Mem_removeRegion_26 : decode b_Mem_removeRegion 26 = .ok (.aload_n 0, 1) := by decide +kernel
theorem d_Mem_removeRegion_27 : decode b_Mem_removeRegion 27 = .ok (.getfield 11, 3) := by decide +kernel
theorem d_Mem_removeRegion_30 : decode b_Mem_removeRegion 30 = .ok (.iload_n 2, 1) := by decide +kernel
theorem d_Mem_removeRegion_31 : decode b_Mem_removeRegion 31 = .ok (.aaload, 1) := by decide +kernel
theorem d_Mem_removeRegion_32 : decode b_Mem_removeRegion 32 = .ok (.astore_n 3, 1) := by decide +kernel
theorem d_Mem_removeRegion_33 : decode b_Mem_removeRegion 33 = .ok (.iload_n 2, 1) := by decide +kernel
theorem d_Mem_removeRegion_34 : decode b_Mem_removeRegion 34 = .ok (.istore 4, 2) := by decide +kernel
theorem d_Mem_removeRegion_36 : decode b_Mem_removeRegion 36 = .ok (.iload 4, 2) := by decide +kernel
theorem d_Mem_removeRegion_38 : decode b_Mem_removeRegion 38 = .ok (.aload_n 0, 1) := by decide +kernel
theorem d_Mem_removeRegion_39 : decode b_Mem_removeRegion 39 = .ok (.getfield 18, 3) := by decide +kernel
theorem d_Mem_removeRegion_42 : decode b_Mem_removeRegion 42 = .ok (.iconst 1, 1) := by decide +kernel
theorem d_Mem_removeRegion_43 : decode b_Mem_removeRegion 43 = .ok (.isub, 1) := by decide +kernel
theorem d_Mem_removeRegion_44 : decode b_Mem_removeRegion 44 = .ok (.if_icmp .ge 25, 3) := by decide +kernel
theorem d_Mem_removeRegion_47 : decode b_Mem_removeRegion 47 = .ok (.aload_n 0, 1) := by decide +kernel
theorem d_Mem_removeRegion_48 : decode b_Mem_removeRegion 48 = .ok (.getfield 11, 3) := by decide +kernel
theorem d_Mem_removeRegion_51 : decode b_Mem_removeRegion 51 = .ok (.iload 4, 2) := by decide +kernel
theorem d_Mem_removeRegion_53 : decode b_Mem_removeRegion 53 = .ok (.aload_n 0, 1) := by decide +kernel
theorem d_Mem_removeRegion_54 : decode b_Mem_removeRegion 54 = .ok (.getfield 11, 3) := by decide +kernel
theorem d_Mem_removeRegion_57 : decode b_Mem_removeRegion 57 = .ok (.iload 4, 2) := by decide +kernel
theorem d_Mem_removeRegion_59 : decode b_Mem_removeRegion 59 = .ok (.iconst 1, 1) := by decide +kernel
theorem d_Mem_removeRegion_60 : decode b_Mem_removeRegion 60 = .ok (.iadd, 1) := by decide +kernel
theorem d_Mem_removeRegion_61 : decode b_Mem_removeRegion 61 = .ok (.aaload, 1) := by decide +kernel
theorem d_Mem_removeRegion_62 : decode b_Mem_removeRegion 62 = .ok (.aastore, 1) := by decide +kernel
theorem d_Mem_removeRegion_63 : decode b_Mem_removeRegion 63 = .ok (.iinc 4 1, 3) := by decide +kernel
theorem d_Mem_removeRegion_66 : decode b_Mem_removeRegion 66 = .ok (.goto (-30), 3) := by decide +kernel
theorem d_Mem_removeRegion_69 : decode b_Mem_removeRegion 69 = .ok (.aload_n 0, 1) := by decide +kernel
theorem d_Mem_removeRegion_70 : decode b_Mem_removeRegion 70 = .ok (.dup, 1) := by decide +kernel
theorem d_Mem_removeRegion_71 : decode b_Mem_removeRegion 71 = .ok (.getfield 18, 3) := by decide +kernel
theorem d_Mem_removeRegion_74 : decode b_Mem_removeRegion 74 = .ok (.iconst 1, 1) := by decide +kernel
theorem d_Mem_removeRegion_75 : decode b_Mem_removeRegion 75 = .ok (.isub, 1) := by decide +kernel
theorem d_Mem_removeRegion_76 : decode b_Mem_removeRegion 76 = .ok (.putfield 18, 3) := by decide +kernel
theorem d_Mem_removeRegion_79 : decode b_Mem_removeRegion 79 = .ok (.aload_n 0, 1) := by decide +kernel
theorem d_Mem_removeRegion_80 : decode b_Mem_removeRegion 80 = .ok (.getfield 11, 3) := by decide +kernel
theorem d_Mem_removeRegion_83 : decode b_Mem_removeRegion 83 = .ok (.aload_n 0, 1) := by decide +kernel
theorem d_Mem_removeRegion_84 : decode b_Mem_removeRegion 84 = .ok (.getfield 18, 3) := by decide +kernel
theorem d_Mem_removeRegion_87 : decode b_Mem_removeRegion 87 = .ok (.aload_n 3, 1) := by decide +kernel
theorem d_Mem_removeRegion_88 : decode b_Mem_removeRegion 88 = .ok (.aastore, 1) := by decide +kernel
theorem d_Mem_removeRegion_89 : decode b_Mem_removeRegion 89 = .ok (.iconst 1, 1) := by decide +kernel
theorem d_Mem_removeRegion_90 : decode b_Mem_removeRegion 90 = .ok (.ireturn, 1) := by decide +kernel
theorem d_Mem_fillRegion_0 : decode b_Mem_fillRegion 0 = .ok (.aload_n 0, 1) := by decide +kernel
theorem d_Mem_fillRegion_1 : decode b_Mem_fillRegion 1 = .ok (.iload_n 1, 1) := by decide +kernel
theorem d_Mem_fillRegion_2 : decode b_Mem_fillRegion 2 = .ok (.invokevirtual 40, 3) := by decide +kernel
theorem d_Mem_fillRegion_5 : decode b_Mem_fillRegion 5 = .ok (.istore 5, 2) := by decide +kernel
theorem d_Mem_fillRegion_7 : decode b_Mem_fillRegion 7 = .ok (.iload 5, 2) := by decide +kernel
theorem d_Mem_fillRegion_9 : decode b_Mem_fillRegion 9 = .ok (.iconst (-1), 1) := by decide +kernel
theorem d_Mem_fillRegion_10 : decode b_Mem_fillRegion 10 = .ok (.if_icmp .eq 20, 3) := by decide +kernel
theorem d_Mem_fillRegion_13 : decode b_Mem_fillRegion 13 = .ok (.aload_n 2, 1) := by decide +kernel
theorem d_Mem_fillRegion_14 : decode b_Mem_fillRegion 14 = .ok (.iload_n 3, 1) := by decide +kernel
theorem d_Mem_fillRegion_15 : decode b_Mem_fillRegion 15 = .ok (.aload_n 0, 1) := by decide +kernel
theorem d_Mem_fillRegion_16 : decode b_Mem_fillRegion 16 = .ok (.getfield 11, 3) := by decide +kernel
theorem d_Mem_fillRegion_19 : decode b_Mem_fillRegion 19 = .ok (.iload 5, 2) := by decide +kernel
theorem d_Mem_fillRegion_21 : decode b_Mem_fillRegion 21 = .ok (.aaload, 1) := by decide +kernel
theorem d_Mem_fillRegion_22 : decode b_Mem_fillRegion 22 = .ok (.getfield 44, 3) := by decide +kernel
theorem d_Mem_fillRegion_25 : decode b_Mem_fillRegion 25 = .ok (.iload 4, 2) := by decide +kernel
theorem d_Mem_fillRegion_27 : decode b_Mem_fillRegion 27 = .ok (.invokevirtual 48, 3) := by decide +kernel
theorem d_Mem_fillRegion_30 : decode b_Mem_fillRegion 30 = .ok (.return_, 1) := by decide +kernel
theorem d_Mem_regionAt_0 : decode b_Mem_regionAt 0 = .ok (.iload_n 1, 1) := by decide +kernel
theorem d_Mem_regionAt_1 : decode b_Mem_regionAt 1 = .ok (.ifCond .lt 11, 3) := by decide +kernel
theorem d_Mem_regionAt_4 : decode b_Mem_regionAt 4 = .ok (.iload_n 1, 1) := by decide +kernel
theorem d_Mem_regionAt_5 : decode b_Mem_regionAt 5 = .ok (.aload_n 0, 1) := by decide +kernel
theorem d_Mem_regionAt_6 : decode b_Mem_regionAt 6 = .ok (.getfield 18, 3) := by decide +kernel
theorem d_Mem_regionAt_9 : decode b_Mem_regionAt 9 = .ok (.if_icmp .lt 7, 3) := by decide +kernel
theorem d_Mem_regionAt_12 : decode b_Mem_regionAt 12 = .ok (.aconst_null, 1) := by decide +kernel
theorem d_Mem_regionAt_13 : decode b_Mem_regionAt 13 = .ok (.goto 9, 3) := by decide +kernel
theorem d_Mem_regionAt_16 : decode b_Mem_regionAt 16 = .ok (.aload_n 0, 1) := by decide +kernel
theorem d_Mem_regionAt_17 : decode b_Mem_regionAt 17 = .ok (.getfield 11, 3) := by decide +kernel
theorem d_Mem_regionAt_20 : decode b_Mem_regionAt 20 = .ok (.iload_n 1, 1) := by decide +kernel
theorem d_Mem_regionAt_21 : decode b_Mem_regionAt 21 = .ok (.aaload, 1) := by decide +kernel
theorem d_Mem_regionAt_22 : decode b_Mem_regionAt 22 = .ok (.areturn, 1) := by decide +kernel
theorem d_Mem_holds_0 : decode b_Mem_holds 0 = .ok (.iconst 0, 1) := by decide +kernel
theorem d_Mem_holds_1 : decode b_Mem_holds 1 = .ok (.istore_n 3, 1) := by decide +kernel
theorem d_Mem_holds_2 : decode b_Mem_holds 2 = .ok (.iload_n 3, 1) := by decide +kernel
theorem d_Mem_holds_3 : decode b_Mem_holds 3 = .ok (.iload_n 2, 1) := by decide +kernel
theorem d_Mem_holds_4 : decode b_Mem_holds 4 = .ok (.if_icmp .ge 22, 3) := by decide +kernel
theorem d_Mem_holds_7 : decode b_Mem_holds 7 = .ok (.aload_n 0, 1) := by decide +kernel
theorem d_Mem_holds_8 : decode b_Mem_holds 8 = .ok (.iload_n 1, 1) := by decide +kernel
theorem d_Mem_holds_9 : decode b_Mem_holds 9 = .ok (.iload_n 3, 1) := by decide +kernel
theorem d_Mem_holds_10 : decode b_Mem_holds 10 = .ok (.iadd, 1) := by decide +kernel
theorem d_Mem_holds_11 : decode b_Mem_holds 11 = .ok (.invokevirtual 40, 3) := by decide +kernel
theorem d_Mem_holds_14 : decode b_Mem_holds 14 = .ok (.iconst (-1), 1) := by decide +kernel
theorem d_Mem_holds_15 : decode b_Mem_holds 15 = .ok (.if_icmp .ne 5, 3) := by decide +kernel
theorem d_Mem_holds_18 : decode b_Mem_holds 18 = .ok (.iconst 0, 1) := by decide +kernel
theorem d_Mem_holds_19 : decode b_Mem_holds 19 = .ok (.ireturn, 1) := by decide +kernel
theorem d_Mem_holds_20 : decode b_Mem_holds 20 = .ok (.iinc 3 1, 3) := by decide +kernel
theorem d_Mem_holds_23 : decode b_Mem_holds 23 = .ok (.goto (-21), 3) := by decide +kernel
theorem d_Mem_holds_26 : decode b_Mem_holds 26 = .ok (.iconst 1, 1) := by decide +kernel
theorem d_Mem_holds_27 : decode b_Mem_holds 27 = .ok (.ireturn, 1) := by decide +kernel
theorem d_Mem_readByte_0 : decode b_Mem_readByte 0 = .ok (.aload_n 0, 1) := by decide +kernel
theorem d_Mem_readByte_1 : decode b_Mem_readByte 1 = .ok (.iload_n 1, 1) := by decide +kernel
theorem d_Mem_readByte_2 : decode b_Mem_readByte 2 = .ok (.invokevirtual 40, 3) := by decide +kernel
theorem d_Mem_readByte_5 : decode b_Mem_readByte 5 = .ok (.istore_n 2, 1) := by decide +kernel
theorem d_Mem_readByte_6 : decode b_Mem_readByte 6 = .ok (.iload_n 2, 1) := by decide +kernel
theorem d_Mem_readByte_7 : decode b_Mem_readByte 7 = .ok (.iconst (-1), 1) := by decide +kernel
theorem d_Mem_readByte_8 : decode b_Mem_readByte 8 = .ok (.if_icmp .ne 7, 3) := by decide +kernel
theorem d_Mem_readByte_11 : decode b_Mem_readByte 11 = .ok (.iconst (-1), 1) := by decide +kernel
theorem d_Mem_readByte_12 : decode b_Mem_readByte 12 = .ok (.goto 23, 3) := by decide +kernel
theorem d_Mem_readByte_15 : decode b_Mem_readByte 15 = .ok (.aload_n 0, 1) := by decide +kernel
theorem d_Mem_readByte_16 : decode b_Mem_readByte 16 = .ok (.getfield 11, 3) := by decide +kernel
theorem d_Mem_readByte_19 : decode b_Mem_readByte 19 = .ok (.iload_n 2, 1) := by decide +kernel
theorem d_Mem_readByte_20 : decode b_Mem_readByte 20 = .ok (.aaload, 1) := by decide +kernel
theorem d_Mem_readByte_21 : decode b_Mem_readByte 21 = .ok (.iload_n 1, 1) := by decide +kernel
theorem d_Mem_readByte_22 : decode b_Mem_readByte 22 = .ok (.aload_n 0, 1) := by decide +kernel
theorem d_Mem_readByte_23 : decode b_Mem_readByte 23 = .ok (.getfield 11, 3) := by decide +kernel
theorem d_Mem_readByte_26 : decode b_Mem_readByte 26 = .ok (.iload_n 2, 1) := by decide +kernel
theorem d_Mem_readByte_27 : decode b_Mem_readByte 27 = .ok (.aaload, 1) := by decide +kernel
theorem d_Mem_readByte_28 : decode b_Mem_readByte 28 = .ok (.getfield 26, 3) := by decide +kernel
theorem d_Mem_readByte_31 : decode b_Mem_readByte 31 = .ok (.isub, 1) := by decide +kernel
theorem d_Mem_readByte_32 : decode b_Mem_readByte 32 = .ok (.invokevirtual 54, 3) := by decide +kernel
theorem d_Mem_readByte_35 : decode b_Mem_readByte 35 = .ok (.ireturn, 1) := by decide +kernel
theorem d_Mem_readNumber_0 : decode b_Mem_readNumber 0 = .ok (.iconst 0, 1) := by decide +kernel
theorem d_Mem_readNumber_1 : decode b_Mem_readNumber 1 = .ok (.istore_n 2, 1) := by decide +kernel
theorem d_Mem_readNumber_2 : decode b_Mem_readNumber 2 = .ok (.iconst 3, 1) := by decide +kernel
theorem d_Mem_readNumber_3 : decode b_Mem_readNumber 3 = .ok (.istore_n 3, 1) := by decide +kernel
theorem d_Mem_readNumber_4 : decode b_Mem_readNumber 4 = .ok (.iload_n 3, 1) := by decide +kernel
theorem d_Mem_readNumber_5 : decode b_Mem_readNumber 5 = .ok (.ifCond .lt 22, 3) := by decide +kernel
theorem d_Mem_readNumber_8 : decode b_Mem_readNumber 8 = .ok (.iload_n 2, 1) := by decide +kernel
theorem d_Mem_readNumber_9 : decode b_Mem_readNumber 9 = .ok (.bipush 8, 2) := by decide +kernel
theorem d_Mem_readNumber_11 : decode b_Mem_readNumber 11 = .ok (.ishl, 1) := by decide +kernel
theorem d_Mem_readNumber_12 : decode b_Mem_readNumber 12 = .ok (.aload_n 0, 1) := by decide +kernel
theorem d_Mem_readNumber_13 : decode b_Mem_readNumber 13 = .ok (.iload_n 1, 1) := by decide +kernel
theorem d_Mem_readNumber_14 : decode b_Mem_readNumber 14 = .ok (.iload_n 3, 1) := by decide +kernel
theorem d_Mem_readNumber_15 : decode b_Mem_readNumber 15 = .ok (.iadd, 1) := by decide +kernel
theorem d_Mem_readNumber_16 : decode b_Mem_readNumber 16 = .ok (.invokevirtual 57, 3) := by decide +kernel
theorem d_Mem_readNumber_19 : decode b_Mem_readNumber 19 = .ok (.ior, 1) := by decide +kernel
theorem d_Mem_readNumber_20 : decode b_Mem_readNumber 20 = .ok (.istore_n 2, 1) := by decide +kernel
theorem d_Mem_readNumber_21 : decode b_Mem_readNumber 21 = .ok (.iinc 3 (-1), 3) := by decide +kernel
theorem d_Mem_readNumber_24 : decode b_Mem_readNumber 24 = .ok (.goto (-20), 3) := by decide +kernel
theorem d_Mem_readNumber_27 : decode b_Mem_readNumber 27 = .ok (.iload_n 2, 1) := by decide +kernel
theorem d_Mem_readNumber_28 : decode b_Mem_readNumber 28 = .ok (.ireturn, 1) := by decide +kernel
theorem d_Mem_flagsAt_0 : decode b_Mem_flagsAt 0 = .ok (.aload_n 0, 1) := by decide +kernel
theorem d_Mem_flagsAt_1 : decode b_Mem_flagsAt 1 = .ok (.iload_n 1, 1) := by decide +kernel
theorem d_Mem_flagsAt_2 : decode b_Mem_flagsAt 2 = .ok (.invokevirtual 40, 3) := by decide +kernel
theorem d_Mem_flagsAt_5 : decode b_Mem_flagsAt 5 = .ok (.istore_n 2, 1) := by decide +kernel
theorem d_Mem_flagsAt_6 : decode b_Mem_flagsAt 6 = .ok (.iload_n 2, 1) := by decide +kernel
theorem d_Mem_flagsAt_7 : decode b_Mem_flagsAt 7 = .ok (.iconst (-1), 1) := by decide +kernel
theorem d_Mem_flagsAt_8 : decode b_Mem_flagsAt 8 = .ok (.if_icmp .ne 7, 3) := by decide +kernel
theorem d_Mem_flagsAt_11 : decode b_Mem_flagsAt 11 = .ok (.iconst (-1), 1) := by decide +kernel
theorem d_Mem_flagsAt_12 : decode b_Mem_flagsAt 12 = .ok (.goto 12, 3) := by decide +kernel
theorem d_Mem_flagsAt_15 : decode b_Mem_flagsAt 15 = .ok (.aload_n 0, 1) := by decide +kernel
theorem d_Mem_flagsAt_16 : decode b_Mem_flagsAt 16 = .ok (.getfield 11, 3) := by decide +kernel
theorem d_Mem_flagsAt_19 : decode b_Mem_flagsAt 19 = .ok (.iload_n 2, 1) := by decide +kernel
theorem d_Mem_flagsAt_20 : decode b_Mem_flagsAt 20 = .ok (.aaload, 1) := by decide +kernel
theorem d_Mem_flagsAt_21 : decode b_Mem_flagsAt 21 = .ok (.getfield 60, 3) := by decide +kernel
theorem d_Mem_flagsAt_24 : decode b_Mem_flagsAt 24 = .ok (.ireturn, 1) := by decide +kernel
theorem d_Mem_writeByte_0 : decode b_Mem_writeByte 0 = .ok (.aload_n 0, 1) := by decide +kernel
theorem d_Mem_writeByte_1 : decode b_Mem_writeByte 1 = .ok (.iload_n 1, 1) := by decide +kernel
theorem d_Mem_writeByte_2 : decode b_Mem_writeByte 2 = .ok (.invokevirtual 40, 3) := by decide +kernel
theorem d_Mem_writeByte_5 : decode b_Mem_writeByte 5 = .ok (.istore_n 3, 1) := by decide +kernel
theorem d_Mem_writeByte_6 : decode b_Mem_writeByte 6 = .ok (.iload_n 3, 1) := by decide +kernel
theorem d_Mem_writeByte_7 : decode b_Mem_writeByte 7 = .ok (.iconst (-1), 1) := by decide +kernel
theorem d_Mem_writeByte_8 : decode b_Mem_writeByte 8 = .ok (.if_icmp .ne 5, 3) := by decide +kernel
theorem d_Mem_writeByte_11 : decode b_Mem_writeByte 11 = .ok (.iconst 0, 1) := by decide +kernel
theorem d_Mem_writeByte_12 : decode b_Mem_writeByte 12 = .ok (.ireturn, 1) := by decide +kernel
theorem d_Mem_writeByte_13 : decode b_Mem_writeByte 13 = .ok (.aload_n 0, 1) := by decide +kernel
theorem d_Mem_writeByte_14 : decode b_Mem_writeByte 14 = .ok (.getfield 11, 3) := by decide +kernel
theorem d_Mem_writeByte_17 : decode b_Mem_writeByte 17 = .ok (.iload_n 3, 1) := by decide +kernel
theorem d_Mem_writeByte_18 : decode b_Mem_writeByte 18 = .ok (.aaload, 1) := by decide +kernel
theorem d_Mem_writeByte_19 : decode b_Mem_writeByte 19 = .ok (.iload_n 1, 1) := by decide +kernel
theorem d_Mem_writeByte_20 : decode b_Mem_writeByte 20 = .ok (.aload_n 0, 1) := by decide +kernel
theorem d_Mem_writeByte_21 : decode b_Mem_writeByte 21 = .ok (.getfield 11, 3) := by decide +kernel
theorem d_Mem_writeByte_24 : decode b_Mem_writeByte 24 = .ok (.iload_n 3, 1) := by decide +kernel
theorem d_Mem_writeByte_25 : decode b_Mem_writeByte 25 = .ok (.aaload, 1) := by decide +kernel
theorem d_Mem_writeByte_26 : decode b_Mem_writeByte 26 = .ok (.getfield 26, 3) := by decide +kernel
theorem d_Mem_writeByte_29 : decode b_Mem_writeByte 29 = .ok (.isub, 1) := by decide +kernel
theorem d_Mem_writeByte_30 : decode b_Mem_writeByte 30 = .ok (.iload_n 2, 1) := by decide +kernel
theorem d_Mem_writeByte_31 : decode b_Mem_writeByte 31 = .ok (.invokevirtual 63, 3) := by decide +kernel
theorem d_Mem_writeByte_34 : decode b_Mem_writeByte 34 = .ok (.iconst 1, 1) := by decide +kernel
theorem d_Mem_writeByte_35 : decode b_Mem_writeByte 35 = .ok (.ireturn, 1) := by decide +kernel
theorem d_Mem_writeNumber_0 : decode b_Mem_writeNumber 0 = .ok (.aload_n 0, 1) := by decide +kernel
theorem d_Mem_writeNumber_1 : decode b_Mem_writeNumber 1 = .ok (.iload_n 1, 1) := by decide +kernel
theorem d_Mem_writeNumber_2 : decode b_Mem_writeNumber 2 = .ok (.iconst 4, 1) := by decide +kernel
theorem d_Mem_writeNumber_3 : decode b_Mem_writeNumber 3 = .ok (.invokevirtual 67, 3) := by decide +kernel
theorem d_Mem_writeNumber_6 : decode b_Mem_writeNumber 6 = .ok (.ifCond .ne 5, 3) := by decide +kernel
theorem d_Mem_writeNumber_9 : decode b_Mem_writeNumber 9 = .ok (.iconst 0, 1) := by decide +kernel
theorem d_Mem_writeNumber_10 : decode b_Mem_writeNumber 10 = .ok (.ireturn, 1) := by decide +kernel
theorem d_Mem_writeNumber_11 : decode b_Mem_writeNumber 11 = .ok (.iconst 0, 1) := by decide +kernel
theorem d_Mem_writeNumber_12 : decode b_Mem_writeNumber 12 = .ok (.istore_n 3, 1) := by decide +kernel
theorem d_Mem_writeNumber_13 : decode b_Mem_writeNumber 13 = .ok (.iload_n 3, 1) := by decide +kernel
theorem d_Mem_writeNumber_14 : decode b_Mem_writeNumber 14 = .ok (.iconst 4, 1) := by decide +kernel
theorem d_Mem_writeNumber_15 : decode b_Mem_writeNumber 15 = .ok (.if_icmp .ge 23, 3) := by decide +kernel
theorem d_Mem_writeNumber_18 : decode b_Mem_writeNumber 18 = .ok (.aload_n 0, 1) := by decide +kernel
theorem d_Mem_writeNumber_19 : decode b_Mem_writeNumber 19 = .ok (.iload_n 1, 1) := by decide +kernel
theorem d_Mem_writeNumber_20 : decode b_Mem_writeNumber 20 = .ok (.iload_n 3, 1) := by decide +kernel
theorem d_Mem_writeNumber_21 : decode b_Mem_writeNumber 21 = .ok (.iadd, 1) := by decide +kernel
theorem d_Mem_writeNumber_22 : decode b_Mem_writeNumber 22 = .ok (.iload_n 2, 1) := by decide +kernel
theorem d_Mem_writeNumber_23 : decode b_Mem_writeNumber 23 = .ok (.bipush 8, 2) := by decide +kernel
theorem d_Mem_writeNumber_25 : decode b_Mem_writeNumber 25 = .ok (.iload_n 3, 1) := by decide +kernel
theorem d_Mem_writeNumber_26 : decode b_Mem_writeNumber 26 = .ok (.imul, 1) := by decide +kernel
theorem d_Mem_writeNumber_27 : decode b_Mem_writeNumber 27 = .ok (.ishr, 1) := by decide +kernel
theorem d_Mem_writeNumber_28 : decode b_Mem_writeNumber 28 = .ok (.invokevirtual 70, 3) := by decide +kernel
theorem d_Mem_writeNumber_31 : decode b_Mem_writeNumber 31 = .ok (.pop, 1) := by decide +kernel
theorem d_Mem_writeNumber_32 : decode b_Mem_writeNumber 32 = .ok (.iinc 3 1, 3) := by decide +kernel
theorem d_Mem_writeNumber_35 : decode b_Mem_writeNumber 35 = .ok (.goto (-22), 3) := by decide +kernel
theorem d_Mem_writeNumber_38 : decode b_Mem_writeNumber 38 = .ok (.iconst 1, 1) := by decide +kernel
theorem d_Mem_writeNumber_39 : decode b_Mem_writeNumber 39 = .ok (.ireturn, 1) := by decide +kernel
theorem d_Mem_search_0 : decode b_Mem_search 0 = .ok (.iconst 0, 1) := by decide +kernel
theorem d_Mem_search_1 : decode b_Mem_search 1 = .ok (.istore_n 3, 1) := by decide +kernel
theorem d_Mem_search_2 : decode b_Mem_search 2 = .ok (.iload_n 3, 1) := by decide +kernel
theorem d_Mem_search_3 : decode b_Mem_search 3 = .ok (.aload_n 0, 1) := by decide +kernel
theorem d_Mem_search_4 : decode b_Mem_search 4 = .ok (.getfield 18, 3) := by decide +kernel
theorem d_Mem_search_7 : decode b_Mem_search 7 = .ok (.if_icmp .ge 31, 3) := by decide +kernel
theorem d_Mem_search_10 : decode b_Mem_search 10 = .ok (.aload_n 0, 1) := by decide +kernel
theorem d_Mem_search_11 : decode b_Mem_search 11 = .ok (.getfield 11, 3) := by decide +kernel
theorem d_Mem_search_14 : decode b_Mem_search 14 = .ok (.iload_n 3, 1) := by decide +kernel
theorem d_Mem_search_15 : decode b_Mem_search 15 = .ok (.aaload, 1) := by decide +kernel
theorem d_Mem_search_16 : decode b_Mem_search 16 = .ok (.iload_n 1, 1) := by decide +kernel
theorem d_Mem_search_17 : decode b_Mem_search 17 = .ok (.iload_n 2, 1) := by decide +kernel
theorem d_Mem_search_18 : decode b_Mem_search 18 = .ok (.invokevirtual 73, 3) := by decide +kernel
theorem d_Mem_search_21 : decode b_Mem_search 21 = .ok (.istore 4, 2) := by decide +kernel
theorem d_Mem_search_23 : decode b_Mem_search 23 = .ok (.iload 4, 2) := by decide +kernel
theorem d_Mem_search_25 : decode b_Mem_search 25 = .ok (.iconst (-1), 1) := by decide +kernel
theorem d_Mem_search_26 : decode b_Mem_search 26 = .ok (.if_icmp .eq 6, 3) := by decide +kernel
theorem d_Mem_search_29 : decode b_Mem_search 29 = .ok (.iload 4, 2) := by decide +kernel
theorem d_Mem_search_31 : decode b_Mem_search 31 = .ok (.ireturn, 1) := by decide +kernel
theorem d_Mem_search_32 : decode b_Mem_search 32 = .ok (.iinc 3 1, 3) := by decide +kernel
theorem d_Mem_search_35 : decode b_Mem_search 35 = .ok (.goto (-33), 3) := by decide +kernel
theorem d_Mem_search_38 : decode b_Mem_search 38 = .ok (.iconst (-1), 1) := by decide +kernel
theorem d_Mem_search_39 : decode b_Mem_search 39 = .ok (.ireturn, 1) := by decide +kernel
theorem d_Mem_indexOf_0 : decode b_Mem_indexOf 0 = .ok (.iconst 0, 1) := by decide +kernel
theorem d_Mem_indexOf_1 : decode b_Mem_indexOf 1 = .ok (.istore_n 2, 1) := by decide +kernel
theorem d_Mem_indexOf_2 : decode b_Mem_indexOf 2 = .ok (.iload_n 2, 1) := by decide +kernel
theorem d_Mem_indexOf_3 : decode b_Mem_indexOf 3 = .ok (.aload_n 0, 1) := by decide +kernel
theorem d_Mem_indexOf_4 : decode b_Mem_indexOf 4 = .ok (.getfield 18, 3) := by decide +kernel
theorem d_Mem_indexOf_7 : decode b_Mem_indexOf 7 = .ok (.if_icmp .ge 24, 3) := by decide +kernel
theorem d_Mem_indexOf_10 : decode b_Mem_indexOf 10 = .ok (.aload_n 0, 1) := by decide +kernel
theorem d_Mem_indexOf_11 : decode b_Mem_indexOf 11 = .ok (.getfield 11, 3) := by decide +kernel
theorem d_Mem_indexOf_14 : decode b_Mem_indexOf 14 = .ok (.iload_n 2, 1) := by decide +kernel
theorem d_Mem_indexOf_15 : decode b_Mem_indexOf 15 = .ok (.aaload, 1) := by decide +kernel
theorem d_Mem_indexOf_16 : decode b_Mem_indexOf 16 = .ok (.iload_n 1, 1) := by decide +kernel
theorem d_Mem_indexOf_17 : decode b_Mem_indexOf 17 = .ok (.invokevirtual 77, 3) := by decide +kernel
theorem d_Mem_indexOf_20 : decode b_Mem_indexOf 20 = .ok (.ifCond .eq 5, 3) := by decide +kernel
theorem d_Mem_indexOf_23 : decode b_Mem_indexOf 23 = .ok (.iload_n 2, 1) := by decide +kernel
theorem d_Mem_indexOf_24 : decode b_Mem_indexOf 24 = .ok (.ireturn, 1) := by decide +kernel
theorem d_Mem_indexOf_25 : decode b_Mem_indexOf 25 = .ok (.iinc 2 1, 3) := by decide +kernel
theorem d_Mem_indexOf_28 : decode b_Mem_indexOf 28 = .ok (.goto (-26), 3) := by decide +kernel
theorem d_Mem_indexOf_31 : decode b_Mem_indexOf 31 = .ok (.iconst (-1), 1) := by decide +kernel
theorem d_Mem_indexOf_32 : decode b_Mem_indexOf 32 = .ok (.ireturn, 1) := by decide +kernel
theorem d_Mem_isSpan_0 : decode b_Mem_isSpan 0 = .ok (.iload_n 0, 1) := by decide +kernel
theorem d_Mem_isSpan_1 : decode b_Mem_isSpan 1 = .ok (.ifCond .lt 44, 3) := by decide +kernel
theorem d_Mem_isSpan_4 : decode b_Mem_isSpan 4 = .ok (.iload_n 0, 1) := by decide +kernel
theorem d_Mem_isSpan_5 : decode b_Mem_isSpan 5 = .ok (.bipush 64, 2) := by decide +kernel
theorem d_Mem_isSpan_7 : decode b_Mem_isSpan 7 = .ok (.irem, 1) := by decide +kernel
theorem d_Mem_isSpan_8 : decode b_Mem_isSpan 8 = .ok (.ifCond .ne 37, 3) := by decide +kernel
theorem d_Mem_isSpan_11 : decode b_Mem_isSpan 11 = .ok (.iload_n 1, 1) := by decide +kernel
theorem d_Mem_isSpan_12 : decode b_Mem_isSpan 12 = .ok (.bipush 64, 2) := by decide +kernel
theorem d_Mem_isSpan_14 : decode b_Mem_isSpan 14 = .ok (.if_icmp .lt 31, 3) := by decide +kernel
theorem d_Mem_isSpan_17 : decode b_Mem_isSpan 17 = .ok (.iload_n 1, 1) := by decide +kernel
theorem d_Mem_isSpan_18 : decode b_Mem_isSpan 18 = .ok (.sipush 1024, 3) := by decide +kernel
theorem d_Mem_isSpan_21 : decode b_Mem_isSpan 21 = .ok (.if_icmp .gt 24, 3) := by decide +kernel
theorem d_Mem_isSpan_24 : decode b_Mem_isSpan 24 = .ok (.iload_n 1, 1) := by decide +kernel
theorem d_Mem_isSpan_25 : decode b_Mem_isSpan 25 = .ok (.bipush 64, 2) := by decide +kernel
theorem d_Mem_isSpan_27 : decode b_Mem_isSpan 27 = .ok (.irem, 1) := by decide +kernel
theorem d_Mem_isSpan_28 : decode b_Mem_isSpan 28 = .ok (.ifCond .ne 17, 3) := by decide +kernel
theorem d_Mem_isSpan_31 : decode b_Mem_isSpan 31 = .ok (.iload_n 0, 1) := by decide +kernel
theorem d_Mem_isSpan_32 : decode b_Mem_isSpan 32 = .ok (.ldc 81, 2) := by decide +kernel
theorem d_Mem_isSpan_34 : decode b_Mem_isSpan 34 = .ok (.iload_n 1, 1) := by decide +kernel
theorem d_Mem_isSpan_35 : decode b_Mem_isSpan 35 = .ok (.iconst 1, 1) := by decide +kernel
theorem d_Mem_isSpan_36 : decode b_Mem_isSpan 36 = .ok (.isub, 1) := by decide +kernel
theorem d_Mem_isSpan_37 : decode b_Mem_isSpan 37 = .ok (.isub, 1) := by decide +kernel
theorem d_Mem_isSpan_38 : decode b_Mem_isSpan 38 = .ok (.if_icmp .gt 7, 3) := by decide +kernel
theorem d_Mem_isSpan_41 : decode b_Mem_isSpan 41 = .ok (.iconst 1, 1) := by decide +kernel
theorem d_Mem_isSpan_42 : decode b_Mem_isSpan 42 = .ok (.goto 4, 3) := by decide +kernel
theorem d_Mem_isSpan_45 : decode b_Mem_isSpan 45 = .ok (.iconst 0, 1) := by decide +kernel
theorem d_Mem_isSpan_46 : decode b_Mem_isSpan 46 = .ok (.ireturn, 1) := by decide +kernel
theorem d_Mem_overlap_0 : decode b_Mem_overlap 0 = .ok (.iload_n 1, 1) := by decide +kernel
theorem d_Mem_overlap_1 : decode b_Mem_overlap 1 = .ok (.ifCond .le 25, 3) := by decide +kernel
theorem d_Mem_overlap_4 : decode b_Mem_overlap 4 = .ok (.iload_n 3, 1) := by decide +kernel
theorem d_Mem_overlap_5 : decode b_Mem_overlap 5 = .ok (.ifCond .le 21, 3) := by decide +kernel
theorem d_Mem_overlap_8 : decode b_Mem_overlap 8 = .ok (.iload_n 0, 1) := by decide +kernel
theorem d_Mem_overlap_9 : decode b_Mem_overlap 9 = .ok (.iload_n 2, 1) := by decide +kernel
theorem d_Mem_overlap_10 : decode b_Mem_overlap 10 = .ok (.isub, 1) := by decide +kernel
theorem d_Mem_overlap_11 : decode b_Mem_overlap 11 = .ok (.iload_n 3, 1) := by decide +kernel
theorem d_Mem_overlap_12 : decode b_Mem_overlap 12 = .ok (.if_icmp .ge 14, 3) := by decide +kernel
theorem d_Mem_overlap_15 : decode b_Mem_overlap 15 = .ok (.iload_n 2, 1) := by decide +kernel
theorem d_Mem_overlap_16 : decode b_Mem_overlap 16 = .ok (.iload_n 0, 1) := by decide +kernel
theorem d_Mem_overlap_17 : decode b_Mem_overlap 17 = .ok (.isub, 1) := by decide +kernel
theorem d_Mem_overlap_18 : decode b_Mem_overlap 18 = .ok (.iload_n 1, 1) := by decide +kernel
theorem d_Mem_overlap_19 : decode b_Mem_overlap 19 = .ok (.if_icmp .ge 7, 3) := by decide +kernel
theorem d_Mem_overlap_22 : decode b_Mem_overlap 22 = .ok (.iconst 1, 1) := by decide +kernel
theorem d_Mem_overlap_23 : decode b_Mem_overlap 23 = .ok (.goto 4, 3) := by decide +kernel
theorem d_Mem_overlap_26 : decode b_Mem_overlap 26 = .ok (.iconst 0, 1) := by decide +kernel
theorem d_Mem_overlap_27 : decode b_Mem_overlap 27 = .ok (.ireturn, 1) := by decide +kernel
theorem d_Arr_fill0_0 : decode b_Arr_fill0 0 = .ok (.iconst 0, 1) := by decide +kernel
theorem d_Arr_fill0_1 : decode b_Arr_fill0 1 = .ok (.istore_n 2, 1) := by decide +kernel
theorem d_Arr_fill0_2 : decode b_Arr_fill0 2 = .ok (.aload_n 0, 1) := by decide +kernel
theorem d_Arr_fill0_3 : decode b_Arr_fill0 3 = .ok (.arraylength, 1) := by decide +kernel
theorem d_Arr_fill0_4 : decode b_Arr_fill0 4 = .ok (.istore_n 3, 1) := by decide +kernel
theorem d_Arr_fill0_5 : decode b_Arr_fill0 5 = .ok (.iload_n 2, 1) := by decide +kernel
theorem d_Arr_fill0_6 : decode b_Arr_fill0 6 = .ok (.iload_n 3, 1) := by decide +kernel
theorem d_Arr_fill0_7 : decode b_Arr_fill0 7 = .ok (.if_icmp .ge 13, 3) := by decide +kernel
theorem d_Arr_fill0_10 : decode b_Arr_fill0 10 = .ok (.aload_n 0, 1) := by decide +kernel
theorem d_Arr_fill0_11 : decode b_Arr_fill0 11 = .ok (.iload_n 2, 1) := by decide +kernel
theorem d_Arr_fill0_12 : decode b_Arr_fill0 12 = .ok (.iload_n 1, 1) := by decide +kernel
theorem d_Arr_fill0_13 : decode b_Arr_fill0 13 = .ok (.bastore, 1) := by decide +kernel
theorem d_Arr_fill0_14 : decode b_Arr_fill0 14 = .ok (.iinc 2 1, 3) := by decide +kernel
theorem d_Arr_fill0_17 : decode b_Arr_fill0 17 = .ok (.goto (-12), 3) := by decide +kernel
theorem d_Arr_fill0_20 : decode b_Arr_fill0 20 = .ok (.return_, 1) := by decide +kernel
theorem d_Arr_fill1_0 : decode b_Arr_fill1 0 = .ok (.iconst 0, 1) := by decide +kernel
theorem d_Arr_fill1_1 : decode b_Arr_fill1 1 = .ok (.istore_n 2, 1) := by decide +kernel
theorem d_Arr_fill1_2 : decode b_Arr_fill1 2 = .ok (.aload_n 0, 1) := by decide +kernel
theorem d_Arr_fill1_3 : decode b_Arr_fill1 3 = .ok (.arraylength, 1) := by decide +kernel
theorem d_Arr_fill1_4 : decode b_Arr_fill1 4 = .ok (.istore_n 3, 1) := by decide +kernel
theorem d_Arr_fill1_5 : decode b_Arr_fill1 5 = .ok (.iload_n 2, 1) := by decide +kernel
theorem d_Arr_fill1_6 : decode b_Arr_fill1 6 = .ok (.iload_n 3, 1) := by decide +kernel
theorem d_Arr_fill1_7 : decode b_Arr_fill1 7 = .ok (.if_icmp .ge 13, 3) := by decide +kernel
theorem d_Arr_fill1_10 : decode b_Arr_fill1 10 = .ok (.aload_n 0, 1) := by decide +kernel
theorem d_Arr_fill1_11 : decode b_Arr_fill1 11 = .ok (.iload_n 2, 1) := by decide +kernel
theorem d_Arr_fill1_12 : decode b_Arr_fill1 12 = .ok (.iload_n 1, 1) := by decide +kernel
theorem d_Arr_fill1_13 : decode b_Arr_fill1 13 = .ok (.iastore, 1) := by decide +kernel
theorem d_Arr_fill1_14 : decode b_Arr_fill1 14 = .ok (.iinc 2 1, 3) := by decide +kernel
theorem d_Arr_fill1_17 : decode b_Arr_fill1 17 = .ok (.goto (-12), 3) := by decide +kernel
theorem d_Arr_fill1_20 : decode b_Arr_fill1 20 = .ok (.return_, 1) := by decide +kernel
