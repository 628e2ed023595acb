theorem d_Mo_init_0 : decode b_Mo_init 0 = .ok (.aload_n 0, 1) := by decide +kernel
theorem d_Mo_init_1 : decode b_Mo_init 1 = .ok (.invokespecial 1, 3) := by decide +kernel
theorem d_Mo_init_4 : decode b_Mo_init 4 = .ok (.aload_n 0, 1) := by decide +kernel
theorem d_Mo_init_5 : decode b_Mo_init 5 = .ok (.bipush 18, 2) := by decide +kernel
theorem d_Mo_init_7 : decode b_Mo_init 7 = .ok (.newarray .int, 2) := by decide +kernel
theorem d_Mo_init_9 : decode b_Mo_init 9 = .ok (.putfield 7, 3) := by decide +kernel
theorem d_Mo_init_12 : decode b_Mo_init 12 = .ok (.aload_n 0, 1) := by decide +kernel
theorem d_Mo_init_13 : decode b_Mo_init 13 = .ok (.bipush 18, 2) := by decide +kernel
theorem d_Mo_init_15 : decode b_Mo_init 15 = .ok (.newarray .int, 2) := by decide +kernel
theorem d_Mo_init_17 : decode b_Mo_init 17 = .ok (.putfield 13, 3) := by decide +kernel
theorem d_Mo_init_20 : decode b_Mo_init 20 = .ok (.aload_n 0, 1) := by decide +kernel
theorem d_Mo_init_21 : decode b_Mo_init 21 = .ok (.bipush 18, 2) := by decide +kernel
theorem d_Mo_init_23 : decode b_Mo_init 23 = .ok (.newarray .int, 2) := by decide +kernel
theorem d_Mo_init_25 : decode b_Mo_init 25 = .ok (.putfield 16, 3) := by decide +kernel
theorem d_Mo_init_28 : decode b_Mo_init 28 = .ok (.aload_n 0, 1) := by decide +kernel
theorem d_Mo_init_29 : decode b_Mo_init 29 = .ok (.sipush 18432, 3) := by decide +kernel
theorem d_Mo_init_32 : decode b_Mo_init 32 = .ok (.newarray .byte, 2) := by decide +kernel
theorem d_Mo_init_34 : decode b_Mo_init 34 = .ok (.putfield 19, 3) := by decide +kernel
theorem d_Mo_init_37 : decode b_Mo_init 37 = .ok (.aload_n 0, 1) := by decide +kernel
theorem d_Mo_init_38 : decode b_Mo_init 38 = .ok (.iconst 3, 1) := by decide +kernel
theorem d_Mo_init_39 : decode b_Mo_init 39 = .ok (.newarray .int, 2) := by decide +kernel
theorem d_Mo_init_41 : decode b_Mo_init 41 = .ok (.putfield 23, 3) := by decide +kernel
theorem d_Mo_init_44 : decode b_Mo_init 44 = .ok (.aload_n 0, 1) := by decide +kernel
theorem d_Mo_init_45 : decode b_Mo_init 45 = .ok (.iconst 3, 1) := by decide +kernel
theorem d_Mo_init_46 : decode b_Mo_init 46 = .ok (.newarray .int, 2) := by decide +kernel
theorem d_Mo_init_48 : decode b_Mo_init 48 = .ok (.putfield 26, 3) := by decide +kernel
theorem d_Mo_init_51 : decode b_Mo_init 51 = .ok (.aload_n 0, 1) := by decide +kernel
theorem d_Mo_init_52 : decode b_Mo_init 52 = .ok (.bipush 9, 2) := by decide +kernel
theorem d_Mo_init_54 : decode b_Mo_init 54 = .ok (.newarray .int, 2) := by decide +kernel
theorem d_Mo_init_56 : decode b_Mo_init 56 = .ok (.putfield 29, 3) := by decide +kernel
theorem d_Mo_init_59 : decode b_Mo_init 59 = .ok (.aload_n 0, 1) := by decide +kernel
theorem d_Mo_init_60 : decode b_Mo_init 60 = .ok (.bipush 72, 2) := by decide +kernel
theorem d_Mo_init_62 : decode b_Mo_init 62 = .ok (.newarray .int, 2) := by decide +kernel
theorem d_Mo_init_64 : decode b_Mo_init 64 = .ok (.putfield 32, 3) := by decide +kernel
theorem d_Mo_init_67 : decode b_Mo_init 67 = .ok (.aload_n 0, 1) := by decide +kernel
theorem d_Mo_init_68 : decode b_Mo_init 68 = .ok (.sipush 8192, 3) := by decide +kernel
theorem d_Mo_init_71 : decode b_Mo_init 71 = .ok (.newarray .byte, 2) := by decide +kernel
theorem d_Mo_init_73 : decode b_Mo_init 73 = .ok (.putfield 35, 3) := by decide +kernel
theorem d_Mo_init_76 : decode b_Mo_init 76 = .ok (.aload_n 0, 1) := by decide +kernel
theorem d_Mo_init_77 : decode b_Mo_init 77 = .ok (.iconst (-1), 1) := by decide +kernel
theorem d_Mo_init_78 : decode b_Mo_init 78 = .ok (.putfield 38, 3) := by decide +kernel
theorem d_Mo_init_81 : decode b_Mo_init 81 = .ok (.aload_n 0, 1) := by decide +kernel
theorem d_Mo_init_82 : decode b_Mo_init 82 = .ok (.sipush 8192, 3) := by decide +kernel
theorem d_Mo_init_85 : decode b_Mo_init 85 = .ok (.newarray .byte, 2) := by decide +kernel
theorem d_Mo_init_87 : decode b_Mo_init 87 = .ok (.putfield 42, 3) := by decide +kernel
theorem d_Mo_init_90 : decode b_Mo_init 90 = .ok (.return_, 1) := by decide +kernel
theorem d_Mo_thrown_0 : decode b_Mo_thrown 0 = .ok (.aload_n 0, 1) := by decide +kernel
theorem d_Mo_thrown_1 : decode b_Mo_thrown 1 = .ok (.getfield 45, 3) := by decide +kernel
theorem d_Mo_thrown_4 : decode b_Mo_thrown 4 = .ok (.ireturn, 1) := by decide +kernel
theorem d_Mo_within_0 : decode b_Mo_within 0 = .ok (.bipush 6, 2) := by decide +kernel
theorem d_Mo_within_2 : decode b_Mo_within 2 = .ok (.iload_n 1, 1) := by decide +kernel
theorem d_Mo_within_3 : decode b_Mo_within 3 = .ok (.imul, 1) := by decide +kernel
theorem d_Mo_within_4 : decode b_Mo_within 4 = .ok (.istore 4, 2) := by decide +kernel
theorem d_Mo_within_6 : decode b_Mo_within 6 = .ok (.iload 4, 2) := by decide +kernel
theorem d_Mo_within_8 : decode b_Mo_within 8 = .ok (.bipush 6, 2) := by decide +kernel
theorem d_Mo_within_10 : decode b_Mo_within 10 = .ok (.iload_n 1, 1) := by decide +kernel
theorem d_Mo_within_11 : decode b_Mo_within 11 = .ok (.imul, 1) := by decide +kernel
theorem d_Mo_within_12 : decode b_Mo_within 12 = .ok (.aload_n 0, 1) := by decide +kernel
theorem d_Mo_within_13 : decode b_Mo_within 13 = .ok (.getfield 23, 3) := by decide +kernel
theorem d_Mo_within_16 : decode b_Mo_within 16 = .ok (.iload_n 1, 1) := by decide +kernel
theorem d_Mo_within_17 : decode b_Mo_within 17 = .ok (.iaload, 1) := by decide +kernel
theorem d_Mo_within_18 : decode b_Mo_within 18 = .ok (.iadd, 1) := by decide +kernel
theorem d_Mo_within_19 : decode b_Mo_within 19 = .ok (.if_icmp .ge 47, 3) := by decide +kernel
theorem d_Mo_within_22 : decode b_Mo_within 22 = .ok (.lload_n 2, 1) := by decide +kernel
theorem d_Mo_within_23 : decode b_Mo_within 23 = .ok (.aload_n 0, 1) := by decide +kernel
theorem d_Mo_within_24 : decode b_Mo_within 24 = .ok (.getfield 7, 3) := by decide +kernel
theorem d_Mo_within_27 : decode b_Mo_within 27 = .ok (.iload 4, 2) := by decide +kernel
theorem d_Mo_within_29 : decode b_Mo_within 29 = .ok (.iaload, 1) := by decide +kernel
theorem d_Mo_within_30 : decode b_Mo_within 30 = .ok (.i2l, 1) := by decide +kernel
theorem d_Mo_within_31 : decode b_Mo_within 31 = .ok (.lcmp, 1) := by decide +kernel
theorem d_Mo_within_32 : decode b_Mo_within 32 = .ok (.ifCond .lt 28, 3) := by decide +kernel
theorem d_Mo_within_35 : decode b_Mo_within 35 = .ok (.lload_n 2, 1) := by decide +kernel
theorem d_Mo_within_36 : decode b_Mo_within 36 = .ok (.aload_n 0, 1) := by decide +kernel
theorem d_Mo_within_37 : decode b_Mo_within 37 = .ok (.getfield 7, 3) := by decide +kernel
theorem d_Mo_within_40 : decode b_Mo_within 40 = .ok (.iload 4, 2) := by decide +kernel
theorem d_Mo_within_42 : decode b_Mo_within 42 = .ok (.iaload, 1) := by decide +kernel
theorem d_Mo_within_43 : decode b_Mo_within 43 = .ok (.i2l, 1) := by decide +kernel
theorem d_Mo_within_44 : decode b_Mo_within 44 = .ok (.aload_n 0, 1) := by decide +kernel
theorem d_Mo_within_45 : decode b_Mo_within 45 = .ok (.getfield 13, 3) := by decide +kernel
theorem d_Mo_within_48 : decode b_Mo_within 48 = .ok (.iload 4, 2) := by decide +kernel
theorem d_Mo_within_50 : decode b_Mo_within 50 = .ok (.iaload, 1) := by decide +kernel
theorem d_Mo_within_51 : decode b_Mo_within 51 = .ok (.i2l, 1) := by decide +kernel
theorem d_Mo_within_52 : decode b_Mo_within 52 = .ok (.ladd, 1) := by decide +kernel
theorem d_Mo_within_53 : decode b_Mo_within 53 = .ok (.lcmp, 1) := by decide +kernel
theorem d_Mo_within_54 : decode b_Mo_within 54 = .ok (.ifCond .ge 6, 3) := by decide +kernel
theorem d_Mo_within_57 : decode b_Mo_within 57 = .ok (.iload 4, 2) := by decide +kernel
theorem d_Mo_within_59 : decode b_Mo_within 59 = .ok (.ireturn, 1) := by decide +kernel
theorem d_Mo_within_60 : decode b_Mo_within 60 = .ok (.iinc 4 1, 3) := by decide +kernel
theorem d_Mo_within_63 : decode b_Mo_within 63 = .ok (.goto (-57), 3) := by decide +kernel
theorem d_Mo_within_66 : decode b_Mo_within 66 = .ok (.iconst (-1), 1) := by decide +kernel
theorem d_Mo_within_67 : decode b_Mo_within 67 = .ok (.ireturn, 1) := by decide +kernel
theorem d_Mo_byteOf_0 : decode b_Mo_byteOf 0 = .ok (.aload_n 0, 1) := by decide +kernel
theorem d_Mo_byteOf_1 : decode b_Mo_byteOf 1 = .ok (.iload_n 1, 1) := by decide +kernel
theorem d_Mo_byteOf_2 : decode b_Mo_byteOf 2 = .ok (.lload_n 2, 1) := by decide +kernel
theorem d_Mo_byteOf_3 : decode b_Mo_byteOf 3 = .ok (.invokevirtual 48, 3) := by decide +kernel
theorem d_Mo_byteOf_6 : decode b_Mo_byteOf 6 = .ok (.istore 4, 2) := by decide +kernel
theorem d_Mo_byteOf_8 : decode b_Mo_byteOf 8 = .ok (.iload 4, 2) := by decide +kernel
theorem d_Mo_byteOf_10 : decode b_Mo_byteOf 10 = .ok (.iconst (-1), 1) := by decide +kernel
theorem d_Mo_byteOf_11 : decode b_Mo_byteOf 11 = .ok (.if_icmp .ne 7, 3) := by decide +kernel
theorem d_Mo_byteOf_14 : decode b_Mo_byteOf 14 = .ok (.iconst (-1), 1) := by decide +kernel
theorem d_Mo_byteOf_15 : decode b_Mo_byteOf 15 = .ok (.goto 30, 3) := by decide +kernel
theorem d_Mo_byteOf_18 : decode b_Mo_byteOf 18 = .ok (.aload_n 0, 1) := by decide +kernel
theorem d_Mo_byteOf_19 : decode b_Mo_byteOf 19 = .ok (.getfield 19, 3) := by decide +kernel
theorem d_Mo_byteOf_22 : decode b_Mo_byteOf 22 = .ok (.sipush 1024, 3) := by decide +kernel
theorem d_Mo_byteOf_25 : decode b_Mo_byteOf 25 = .ok (.iload 4, 2) := by decide +kernel
theorem d_Mo_byteOf_27 : decode b_Mo_byteOf 27 = .ok (.imul, 1) := by decide +kernel
theorem d_Mo_byteOf_28 : decode b_Mo_byteOf 28 = .ok (.lload_n 2, 1) := by decide +kernel
theorem d_Mo_byteOf_29 : decode b_Mo_byteOf 29 = .ok (.aload_n 0, 1) := by decide +kernel
theorem d_Mo_byteOf_30 : decode b_Mo_byteOf 30 = .ok (.getfield 7, 3) := by decide +kernel
theorem d_Mo_byteOf_33 : decode b_Mo_byteOf 33 = .ok (.iload 4, 2) := by decide +kernel
theorem d_Mo_byteOf_35 : decode b_Mo_byteOf 35 = .ok (.iaload, 1) := by decide +kernel
theorem d_Mo_byteOf_36 : decode b_Mo_byteOf 36 = .ok (.i2l, 1) := by decide +kernel
theorem d_Mo_byteOf_37 : decode b_Mo_byteOf 37 = .ok (.lsub, 1) := by decide +kernel
theorem d_Mo_byteOf_38 : decode b_Mo_byteOf 38 = .ok (.l2i, 1) := by decide +kernel
theorem d_Mo_byteOf_39 : decode b_Mo_byteOf 39 = .ok (.iadd, 1) := by decide +kernel
theorem d_Mo_byteOf_40 : decode b_Mo_byteOf 40 = .ok (.baload, 1) := by decide +kernel
theorem d_Mo_byteOf_41 : decode b_Mo_byteOf 41 = .ok (.sipush 255, 3) := by decide +kernel
theorem d_Mo_byteOf_44 : decode b_Mo_byteOf 44 = .ok (.iand, 1) := by decide +kernel
theorem d_Mo_byteOf_45 : decode b_Mo_byteOf 45 = .ok (.ireturn, 1) := by decide +kernel
theorem d_Mo_map_0 : decode b_Mo_map 0 = .ok (.aload_n 0, 1) := by decide +kernel
theorem d_Mo_map_1 : decode b_Mo_map 1 = .ok (.iconst 0, 1) := by decide +kernel
theorem d_Mo_map_2 : decode b_Mo_map 2 = .ok (.putfield 45, 3) := by decide +kernel
theorem d_Mo_map_5 : decode b_Mo_map 5 = .ok (.iload_n 1, 1) := by decide +kernel
theorem d_Mo_map_6 : decode b_Mo_map 6 = .ok (.ifCond .lt 57, 3) := by decide +kernel
theorem d_Mo_map_9 : decode b_Mo_map 9 = .ok (.iload_n 1, 1) := by decide +kernel
theorem d_Mo_map_10 : decode b_Mo_map 10 = .ok (.bipush 64, 2) := by decide +kernel
theorem d_Mo_map_12 : decode b_Mo_map 12 = .ok (.irem, 1) := by decide +kernel
theorem d_Mo_map_13 : decode b_Mo_map 13 = .ok (.ifCond .ne 50, 3) := by decide +kernel
theorem d_Mo_map_16 : decode b_Mo_map 16 = .ok (.iload_n 2, 1) := by decide +kernel
theorem d_Mo_map_17 : decode b_Mo_map 17 = .ok (.iconst 1, 1) := by decide +kernel
theorem d_Mo_map_18 : decode b_Mo_map 18 = .ok (.if_icmp .lt 45, 3) := by decide +kernel
theorem d_Mo_map_21 : decode b_Mo_map 21 = .ok (.iload_n 2, 1) := by decide +kernel
theorem d_Mo_map_22 : decode b_Mo_map 22 = .ok (.bipush 16, 2) := by decide +kernel
theorem d_Mo_map_24 : decode b_Mo_map 24 = .ok (.if_icmp .gt 39, 3) := by decide +kernel
theorem d_Mo_map_27 : decode b_Mo_map 27 = .ok (.iload_n 3, 1) := by decide +kernel
theorem d_Mo_map_28 : decode b_Mo_map 28 = .ok (.ifCond .lt 35, 3) := by decide +kernel
theorem d_Mo_map_31 : decode b_Mo_map 31 = .ok (.iload_n 3, 1) := by decide +kernel
theorem d_Mo_map_32 : decode b_Mo_map 32 = .ok (.bipush 7, 2) := by decide +kernel
theorem d_Mo_map_34 : decode b_Mo_map 34 = .ok (.if_icmp .gt 29, 3) := by decide +kernel
theorem d_Mo_map_37 : decode b_Mo_map 37 = .ok (.aload_n 0, 1) := by decide +kernel
theorem d_Mo_map_38 : decode b_Mo_map 38 = .ok (.getfield 23, 3) := by decide +kernel
theorem d_Mo_map_41 : decode b_Mo_map 41 = .ok (.iconst 0, 1) := by decide +kernel
theorem d_Mo_map_42 : decode b_Mo_map 42 = .ok (.iaload, 1) := by decide +kernel
theorem d_Mo_map_43 : decode b_Mo_map 43 = .ok (.bipush 6, 2) := by decide +kernel
theorem d_Mo_map_45 : decode b_Mo_map 45 = .ok (.if_icmp .eq 18, 3) := by decide +kernel
theorem d_Mo_map_48 : decode b_Mo_map 48 = .ok (.iload_n 1, 1) := by decide +kernel
theorem d_Mo_map_49 : decode b_Mo_map 49 = .ok (.i2l, 1) := by decide +kernel
theorem d_Mo_map_50 : decode b_Mo_map 50 = .ok (.bipush 64, 2) := by decide +kernel
theorem d_Mo_map_52 : decode b_Mo_map 52 = .ok (.iload_n 2, 1) := by decide +kernel
theorem d_Mo_map_53 : decode b_Mo_map 53 = .ok (.imul, 1) := by decide +kernel
theorem d_Mo_map_54 : decode b_Mo_map 54 = .ok (.i2l, 1) := by decide +kernel
theorem d_Mo_map_55 : decode b_Mo_map 55 = .ok (.ladd, 1) := by decide +kernel
theorem d_Mo_map_56 : decode b_Mo_map 56 = .ok (.ldc2_w 52, 3) := by decide +kernel
theorem d_Mo_map_59 : decode b_Mo_map 59 = .ok (.lcmp, 1) := by decide +kernel
theorem d_Mo_map_60 : decode b_Mo_map 60 = .ok (.ifCond .le 5, 3) := by decide +kernel
theorem d_Mo_map_63 : decode b_Mo_map 63 = .ok (.iconst 0, 1) := by decide +kernel
theorem d_Mo_map_64 : decode b_Mo_map 64 = .ok (.ireturn, 1) := by decide +kernel
theorem d_Mo_map_65 : decode b_Mo_map 65 = .ok (.iconst 0, 1) := by decide +kernel
theorem d_Mo_map_66 : decode b_Mo_map 66 = .ok (.istore 4, 2) := by decide +kernel
theorem d_Mo_map_68 : decode b_Mo_map 68 = .ok (.iload 4, 2) := by decide +kernel
theorem d_Mo_map_70 : decode b_Mo_map 70 = .ok (.iload_n 2, 1) := by decide +kernel
theorem d_Mo_map_71 : decode b_Mo_map 71 = .ok (.if_icmp .ge 29, 3) := by decide +kernel
theorem d_Mo_map_74 : decode b_Mo_map 74 = .ok (.aload_n 0, 1) := by decide +kernel
theorem d_Mo_map_75 : decode b_Mo_map 75 = .ok (.iconst 0, 1) := by decide +kernel
theorem d_Mo_map_76 : decode b_Mo_map 76 = .ok (.iload_n 1, 1) := by decide +kernel
theorem d_Mo_map_77 : decode b_Mo_map 77 = .ok (.i2l, 1) := by decide +kernel
theorem d_Mo_map_78 : decode b_Mo_map 78 = .ok (.bipush 64, 2) := by decide +kernel
theorem d_Mo_map_80 : decode b_Mo_map 80 = .ok (.iload 4, 2) := by decide +kernel
theorem d_Mo_map_82 : decode b_Mo_map 82 = .ok (.imul, 1) := by decide +kernel
theorem d_Mo_map_83 : decode b_Mo_map 83 = .ok (.i2l, 1) := by decide +kernel
theorem d_Mo_map_84 : decode b_Mo_map 84 = .ok (.ladd, 1) := by decide +kernel
theorem d_Mo_map_85 : decode b_Mo_map 85 = .ok (.invokevirtual 48, 3) := by decide +kernel
theorem d_Mo_map_88 : decode b_Mo_map 88 = .ok (.iconst (-1), 1) := by decide +kernel
theorem d_Mo_map_89 : decode b_Mo_map 89 = .ok (.if_icmp .eq 5, 3) := by decide +kernel
theorem d_Mo_map_92 : decode b_Mo_map 92 = .ok (.iconst 0, 1) := by decide +kernel
theorem d_Mo_map_93 : decode b_Mo_map 93 = .ok (.ireturn, 1) := by decide +kernel
theorem d_Mo_map_94 : decode b_Mo_map 94 = .ok (.iinc 4 1, 3) := by decide +kernel
theorem d_Mo_map_97 : decode b_Mo_map 97 = .ok (.goto (-29), 3) := by decide +kernel
theorem d_Mo_map_100 : decode b_Mo_map 100 = .ok (.aload_n 0, 1) := by decide +kernel
theorem d_Mo_map_101 : decode b_Mo_map 101 = .ok (.getfield 23, 3) := by decide +kernel
theorem d_Mo_map_104 : decode b_Mo_map 104 = .ok (.iconst 0, 1) := by decide +kernel
theorem d_Mo_map_105 : decode b_Mo_map 105 = .ok (.iaload, 1) := by decide +kernel
theorem d_Mo_map_106 : decode b_Mo_map 106 = .ok (.istore 4, 2) := by decide +kernel
theorem d_Mo_map_108 : decode b_Mo_map 108 = .ok (.aload_n 0, 1) := by decide +kernel
theorem d_Mo_map_109 : decode b_Mo_map 109 = .ok (.getfield 7, 3) := by decide +kernel
theorem d_Mo_map_112 : decode b_Mo_map 112 = .ok (.iload 4, 2) := by decide +kernel
theorem d_Mo_map_114 : decode b_Mo_map 114 = .ok (.iload_n 1, 1) := by decide +kernel
theorem d_Mo_map_115 : decode b_Mo_map 115 = .ok (.iastore, 1) := by decide +kernel
theorem d_Mo_map_116 : decode b_Mo_map 116 = .ok (.aload_n 0, 1) := by decide +kernel
theorem d_Mo_map_117 : decode b_Mo_map 117 = .ok (.getfield 13, 3) := by decide +kernel
theorem d_Mo_map_120 : decode b_Mo_map 120 = .ok (.iload 4, 2) := by decide +kernel
theorem d_Mo_map_122 : decode b_Mo_map 122 = .ok (.bipush 64, 2) := by decide +kernel
theorem d_Mo_map_124 : decode b_Mo_map 124 = .ok (.iload_n 2, 1) := by decide +kernel
theorem d_Mo_map_125 : decode b_Mo_map 125 = .ok (.imul, 1) := by decide +kernel
theorem d_Mo_map_126 : decode b_Mo_map 126 = .ok (.iastore, 1) := by decide +kernel
theorem d_Mo_map_127 : decode b_Mo_map 127 = .ok (.aload_n 0, 1) := by decide +kernel
theorem d_Mo_map_128 : decode b_Mo_map 128 = .ok (.getfield 16, 3) := by decide +kernel
theorem d_Mo_map_131 : decode b_Mo_map 131 = .ok (.iload 4, 2) := by decide +kernel
theorem d_Mo_map_133 : decode b_Mo_map 133 = .ok (.iload_n 3, 1) := by decide +kernel
theorem d_Mo_map_134 : decode b_Mo_map 134 = .ok (.iastore, 1) := by decide +kernel
theorem d_Mo_map_135 : decode b_Mo_map 135 = .ok (.iconst 0, 1) := by decide +kernel
theorem d_Mo_map_136 : decode b_Mo_map 136 = .ok (.istore 5, 2) := by decide +kernel
theorem d_Mo_map_138 : decode b_Mo_map 138 = .ok (.iload 5, 2) := by decide +kernel
theorem d_Mo_map_140 : decode b_Mo_map 140 = .ok (.sipush 1024, 3) := by decide +kernel
theorem d_Mo_map_143 : decode b_Mo_map 143 = .ok (.if_icmp .ge 24, 3) := by decide +kernel
theorem d_Mo_map_146 : decode b_Mo_map 146 = .ok (.aload_n 0, 1) := by decide +kernel
theorem d_Mo_map_147 : decode b_Mo_map 147 = .ok (.getfield 19, 3) := by decide +kernel
theorem d_Mo_map_150 : decode b_Mo_map 150 = .ok (.sipush 1024, 3) := by decide +kernel
theorem d_Mo_map_153 : decode b_Mo_map 153 = .ok (.iload 4, 2) := by decide +kernel
theorem d_Mo_map_155 : decode b_Mo_map 155 = .ok (.imul, 1) := by decide +kernel
theorem d_Mo_map_156 : decode b_Mo_map 156 = .ok (.iload 5, 2) := by decide +kernel
theorem d_Mo_map_158 : decode b_Mo_map 158 = .ok (.iadd, 1) := by decide +kernel
theorem d_Mo_map_159 : decode b_Mo_map 159 = .ok (.iconst 0, 1) := by decide +kernel
theorem d_Mo_map_160 : decode b_Mo_map 160 = .ok (.bastore, 1) := by decide +kernel
theorem d_Mo_map_161 : decode b_Mo_map 161 = .ok (.iinc 5 1, 3) := by decide +kernel
theorem d_Mo_map_164 : decode b_Mo_map 164 = .ok (.goto (-26), 3) := by decide +kernel
theorem d_Mo_map_167 : decode b_Mo_map 167 = .ok (.aload_n 0, 1) := by decide +kernel
theorem d_Mo_map_168 : decode b_Mo_map 168 = .ok (.getfield 23, 3) := by decide +kernel
theorem d_Mo_map_171 : decode b_Mo_map 171 = .ok (.iconst 0, 1) := by decide +kernel
theorem d_Mo_map_172 : decode b_Mo_map 172 = .ok (.dup2, 1) := by decide +kernel
theorem d_Mo_map_173 : decode b_Mo_map 173 = .ok (.iaload, 1) := by decide +kernel
theorem d_Mo_map_174 : decode b_Mo_map 174 = .ok (.iconst 1, 1) := by decide +kernel
theorem d_Mo_map_175 : decode b_Mo_map 175 = .ok (.iadd, 1) := by decide +kernel
theorem d_Mo_map_176 : decode b_Mo_map 176 = .ok (.iastore, 1) := by decide +kernel
theorem d_Mo_map_177 : decode b_Mo_map 177 = .ok (.iconst 1, 1) := by decide +kernel
theorem d_Mo_map_178 : decode b_Mo_map 178 = .ok (.ireturn, 1) := by decide +kernel
theorem d_Mo_move_0 : decode b_Mo_move 0 = .ok (.aload_n 0, 1) := by decide +kernel
theorem d_Mo_move_1 : decode b_Mo_move 1 = .ok (.getfield 7, 3) := by decide +kernel
theorem d_Mo_move_4 : decode b_Mo_move 4 = .ok (.iload_n 2, 1) := by decide +kernel
theorem d_Mo_move_5 : decode b_Mo_move 5 = .ok (.aload_n 0, 1) := by decide +kernel
theorem d_Mo_move_6 : decode b_Mo_move 6 = .ok (.getfield 7, 3) := by decide +kernel
theorem d_Mo_move_9 : decode b_Mo_move 9 = .ok (.iload_n 1, 1) := by decide +kernel
theorem d_Mo_move_10 : decode b_Mo_move 10 = .ok (.iaload, 1) := by decide +kernel
theorem d_Mo_move_11 : decode b_Mo_move 11 = .ok (.iastore, 1) := by decide +kernel
theorem d_Mo_move_12 : decode b_Mo_move 12 = .ok (.aload_n 0, 1) := by decide +kernel
theorem d_Mo_move_13 : decode b_Mo_move 13 = .ok (.getfield 13, 3) := by decide +kernel
theorem d_Mo_move_16 : decode b_Mo_move 16 = .ok (.iload_n 2, 1) := by decide +kernel
theorem d_Mo_move_17 : decode b_Mo_move 17 = .ok (.aload_n 0, 1) := by decide +kernel
theorem d_Mo_move_18 : decode b_Mo_move 18 = .ok (.getfield 13, 3) := by decide +kernel
theorem d_Mo_move_21 : decode b_Mo_move 21 = .ok (.iload_n 1, 1) := by decide +kernel
theorem d_Mo_move_22 : decode b_Mo_move 22 = .ok (.iaload, 1) := by decide +kernel
theorem d_Mo_move_23 : decode b_Mo_move 23 = .ok (.iastore, 1) := by decide +kernel
theorem d_Mo_move_24 : decode b_Mo_move 24 = .ok (.aload_n 0, 1) := by decide +kernel
theorem d_Mo_move_25 : decode b_Mo_move 25 = .ok (.getfield 16, 3) := by decide +kernel
theorem d_Mo_move_28 : decode b_Mo_move 28 = .ok (.iload_n 2, 1) := by decide +kernel
theorem d_Mo_move_29 : decode b_Mo_move 29 = .ok (.aload_n 0, 1) := by decide +kernel
theorem d_Mo_move_30 : decode b_Mo_move 30 = .ok (.getfield 16, 3) := by decide +kernel
theorem d_Mo_move_33 : decode b_Mo_move 33 = .ok (.iload_n 1, 1) := by decide +kernel
theorem d_Mo_move_34 : decode b_Mo_move 34 = .ok (.iaload, 1) := by decide +kernel
theorem d_Mo_move_35 : decode b_Mo_move 35 = .ok (.iastore, 1) := by decide +kernel
theorem d_Mo_move_36 : decode b_Mo_move 36 = .ok (.iconst 0, 1) := by decide +kernel
theorem d_Mo_move_37 : decode b_Mo_move 37 = .ok (.istore_n 3, 1) := by decide +kernel
theorem d_Mo_move_38 : decode b_Mo_move 38 = .ok (.iload_n 3, 1) := by decide +kernel
theorem d_Mo_move_39 : decode b_Mo_move 39 = .ok (.sipush 1024, 3) := by decide +kernel
theorem d_Mo_move_42 : decode b_Mo_move 42 = .ok (.if_icmp .ge 33, 3) := by decide +kernel
theorem d_Mo_move_45 : decode b_Mo_move 45 = .ok (.aload_n 0, 1) := by decide +kernel
theorem d_Mo_move_46 : decode b_Mo_move 46 = .ok (.getfield 19, 3) := by decide +kernel
theorem d_Mo_move_49 : decode b_Mo_move 49 = .ok (.sipush 1024, 3) := by decide +kernel
theorem d_Mo_move_52 : decode b_Mo_move 52 = .ok (.iload_n 2, 1) := by decide +kernel
theorem d_Mo_move_53 : decode b_Mo_move 53 = .ok (.imul, 1) := by decide +kernel
theorem d_Mo_move_54 : decode b_Mo_move 54 = .ok (.iload_n 3, 1) := by decide +kernel
theorem d_Mo_move_55 : decode b_Mo_move 55 = .ok (.iadd, 1) := by decide +kernel
theorem d_Mo_move_56 : decode b_Mo_move 56 = .ok (.aload_n 0, 1) := by decide +kernel
theorem d_Mo_move_57 : decode b_Mo_move 57 = .ok (.getfield 19, 3) := by decide +kernel
theorem d_Mo_move_60 : decode b_Mo_move 60 = .ok (.sipush 1024, 3) := by decide +kernel
theorem d_Mo_move_63 : decode b_Mo_move 63 = .ok (.iload_n 1, 1) := by decide +kernel
theorem d_Mo_move_64 : decode b_Mo_move 64 = .ok (.imul, 1) := by decide +kernel
theorem d_Mo_move_65 : decode b_Mo_move 65 = .ok (.iload_n 3, 1) := by decide +kernel
theorem d_Mo_move_66 : decode b_Mo_move 66 = .ok (.iadd, 1) := by decide +kernel
theorem d_Mo_move_67 : decode b_Mo_move 67 = .ok (.baload, 1) := by decide +kernel
theorem d_Mo_move_68 : decode b_Mo_move 68 = .ok (.bastore, 1) := by decide +kernel
theorem d_Mo_move_69 : decode b_Mo_move 69 = .ok (.iinc 3 1, 3) := by decide +kernel
theorem d_Mo_move_72 : decode b_Mo_move 72 = .ok (.goto (-34), 3) := by decide +kernel
theorem d_Mo_move_75 : decode b_Mo_move 75 = .ok (.return_, 1) := by decide +kernel
theorem d_Mo_unmap_0 : decode b_Mo_unmap 0 = .ok (.aload_n 0, 1) := by decide +kernel
theorem d_Mo_unmap_1 : decode b_Mo_unmap 1 = .ok (.iconst 0, 1) := by decide +kernel
theorem d_Mo_unmap_2 : decode b_Mo_unmap 2 = .ok (.putfield 45, 3) := by decide +kernel
theorem d_Mo_unmap_5 : decode b_Mo_unmap 5 = .ok (.aload_n 0, 1) := by decide +kernel
theorem d_Mo_unmap_6 : decode b_Mo_unmap 6 = .ok (.iconst 0, 1) := by decide +kernel
theorem d_Mo_unmap_7 : decode b_Mo_unmap 7 = .ok (.iload_n 1, 1) := by decide +kernel
theorem d_Mo_unmap_8 : decode b_Mo_unmap 8 = .ok (.i2l, 1) := by decide +kernel
theorem d_Mo_unmap_9 : decode b_Mo_unmap 9 = .ok (.invokevirtual 48, 3) := by decide +kernel
theorem d_Mo_unmap_12 : decode b_Mo_unmap 12 = .ok (.istore_n 2, 1) := by decide +kernel
theorem d_Mo_unmap_13 : decode b_Mo_unmap 13 = .ok (.iload_n 2, 1) := by decide +kernel
theorem d_Mo_unmap_14 : decode b_Mo_unmap 14 = .ok (.iconst (-1), 1) := by decide +kernel
theorem d_Mo_unmap_15 : decode b_Mo_unmap 15 = .ok (.if_icmp .eq 13, 3) := by decide +kernel
theorem d_Mo_unmap_18 : decode b_Mo_unmap 18 = .ok (.aload_n 0, 1) := by decide +kernel
theorem d_Mo_unmap_19 : decode b_Mo_unmap 19 = .ok (.getfield 7, 3) := by decide +kernel
theorem d_Mo_unmap_22 : decode b_Mo_unmap 22 = .ok (.iload_n 2, 1) := by decide +kernel
theorem d_Mo_unmap_23 : decode b_Mo_unmap 23 = .ok (.iaload, 1) := by decide +kernel
theorem d_Mo_unmap_24 : decode b_Mo_unmap 24 = .ok (.iload_n 1, 1) := by decide +kernel
theorem d_Mo_unmap_25 : decode b_Mo_unmap 25 = .ok (.if_icmp .eq 5, 3) := by decide +kernel
theorem d_Mo_unmap_28 : decode b_Mo_unmap 28 = .ok (.iconst 0, 1) := by decide +kernel
theorem d_Mo_unmap_29 : decode b_Mo_unmap 29 = .ok (.ireturn, 1) := by decide +kernel
theorem d_Mo_unmap_30 : decode b_Mo_unmap 30 = .ok (.aload_n 0, 1) := by decide +kernel
theorem d_Mo_unmap_31 : decode b_Mo_unmap 31 = .ok (.getfield 23, 3) := by decide +kernel
theorem d_Mo_unmap_34 : decode b_Mo_unmap 34 = .ok (.iconst 0, 1) := by decide +kernel
theorem d_Mo_unmap_35 : decode b_Mo_unmap 35 = .ok (.dup2, 1) := by decide +kernel
theorem d_Mo_unmap_36 : decode b_Mo_unmap 36 = .ok (.iaload, 1) := by decide +kernel
theorem d_Mo_unmap_37 : decode b_Mo_unmap 37 = .ok (.iconst 1, 1) := by decide +kernel
theorem d_Mo_unmap_38 : decode b_Mo_unmap 38 = .ok (.isub, 1) := by decide +kernel
theorem d_Mo_unmap_39 : decode b_Mo_unmap 39 = .ok (.iastore, 1) := by decide +kernel
theorem d_Mo_unmap_40 : decode b_Mo_unmap 40 = .ok (.iload_n 2, 1) := by decide +kernel
theorem d_Mo_unmap_41 : decode b_Mo_unmap 41 = .ok (.istore_n 3, 1) := by decide +kernel
theorem d_Mo_unmap_42 : decode b_Mo_unmap 42 = .ok (.iload_n 3, 1) := by decide +kernel
theorem d_Mo_unmap_43 : decode b_Mo_unmap 43 = .ok (.aload_n 0, 1) := by decide +kernel
theorem d_Mo_unmap_44 : decode b_Mo_unmap 44 = .ok (.getfield 23, 3) := by decide +kernel
theorem d_Mo_unmap_47 : decode b_Mo_unmap 47 = .ok (.iconst 0, 1) := by decide +kernel
theorem d_Mo_unmap_48 : decode b_Mo_unmap 48 = .ok (.iaload, 1) := by decide +kernel
theorem d_Mo_unmap_49 : decode b_Mo_unmap 49 = .ok (.if_icmp .ge 17, 3) := by decide +kernel
theorem d_Mo_unmap_52 : decode b_Mo_unmap 52 = .ok (.aload_n 0, 1) := by decide +kernel
theorem d_Mo_unmap_53 : decode b_Mo_unmap 53 = .ok (.iload_n 3, 1) := by decide +kernel
theorem d_Mo_unmap_54 : decode b_Mo_unmap 54 = .ok (.iconst 1, 1) := by decide +kernel
theorem d_Mo_unmap_55 : decode b_Mo_unmap 55 = .ok (.iadd, 1) := by decide +kernel
theorem d_Mo_unmap_56 : decode b_Mo_unmap 56 = .ok (.iload_n 3, 1) := by decide +kernel
theorem d_Mo_unmap_57 : decode b_Mo_unmap 57 = .ok (.invokevirtual 54, 3) := by decide +kernel
theorem d_Mo_unmap_60 : decode b_Mo_unmap 60 = .ok (.iinc 3 1, 3) := by decide +kernel
theorem d_Mo_unmap_63 : decode b_Mo_unmap 63 = .ok (.goto (-21), 3) := by decide +kernel
theorem d_Mo_unmap_66 : decode b_Mo_unmap 66 = .ok (.iconst 1, 1) := by decide +kernel
theorem d_Mo_unmap_67 : decode b_Mo_unmap 67 = .ok (.ireturn, 1) := by decide +kernel
theorem d_Mo_poke_0 : decode b_Mo_poke 0 = .ok (.aload_n 0, 1) := by decide +kernel
theorem d_Mo_poke_1 : decode b_Mo_poke 1 = .ok (.iconst 0, 1) := by decide +kernel
theorem d_Mo_poke_2 : decode b_Mo_poke 2 = .ok (.putfield 45, 3) := by decide +kernel
theorem d_Mo_poke_5 : decode b_Mo_poke 5 = .ok (.aload_n 0, 1) := by decide +kernel
theorem d_Mo_poke_6 : decode b_Mo_poke 6 = .ok (.iconst 0, 1) := by decide +kernel
theorem d_Mo_poke_7 : decode b_Mo_poke 7 = .ok (.iload_n 1, 1) := by decide +kernel
theorem d_Mo_poke_8 : decode b_Mo_poke 8 = .ok (.i2l, 1) := by decide +kernel
theorem d_Mo_poke_9 : decode b_Mo_poke 9 = .ok (.invokevirtual 48, 3) := by decide +kernel
theorem d_Mo_poke_12 : decode b_Mo_poke 12 = .ok (.istore_n 3, 1) := by decide +kernel
theorem d_Mo_poke_13 : decode b_Mo_poke 13 = .ok (.iload_n 3, 1) := by decide +kernel
theorem d_Mo_poke_14 : decode b_Mo_poke 14 = .ok (.iconst (-1), 1) := by decide +kernel
theorem d_Mo_poke_15 : decode b_Mo_poke 15 = .ok (.if_icmp .ne 5, 3) := by decide +kernel
theorem d_Mo_poke_18 : decode b_Mo_poke 18 = .ok (.iconst 0, 1) := by decide +kernel
theorem d_Mo_poke_19 : decode b_Mo_poke 19 = .ok (.ireturn, 1) := by decide +kernel
theorem d_Mo_poke_20 : decode b_Mo_poke 20 = .ok (.aload_n 0, 1) := by decide +kernel
theorem d_Mo_poke_21 : decode b_Mo_poke 21 = .ok (.getfield 19, 3) := by decide +kernel
theorem d_Mo_poke_24 : decode b_Mo_poke 24 = .ok (.sipush 1024, 3) := by decide +kernel
theorem d_Mo_poke_27 : decode b_Mo_poke 27 = .ok (.iload_n 3, 1) := by decide +kernel
theorem d_Mo_poke_28 : decode b_Mo_poke 28 = .ok (.imul, 1) := by decide +kernel
theorem d_Mo_poke_29 : decode b_Mo_poke 29 = .ok (.iload_n 1, 1) := by decide +kernel
theorem d_Mo_poke_30 : decode b_Mo_poke 30 = .ok (.iadd, 1) := by decide +kernel
theorem d_Mo_poke_31 : decode b_Mo_poke 31 = .ok (.aload_n 0, 1) := by decide +kernel
theorem d_Mo_poke_32 : decode b_Mo_poke 32 = .ok (.getfield 7, 3) := by decide +kernel
theorem d_Mo_poke_35 : decode b_Mo_poke 35 = .ok (.iload_n 3, 1) := by decide +kernel
theorem d_Mo_poke_36 : decode b_Mo_poke 36 = .ok (.iaload, 1) := by decide +kernel
theorem d_Mo_poke_37 : decode b_Mo_poke 37 = .ok (.isub, 1) := by decide +kernel
theorem d_Mo_poke_38 : decode b_Mo_poke 38 = .ok (.iload_n 2, 1) := by decide +kernel
theorem d_Mo_poke_39 : decode b_Mo_poke 39 = .ok (.i2b, 1) := by decide +kernel
theorem d_Mo_poke_40 : decode b_Mo_poke 40 = .ok (.bastore, 1) := by decide +kernel
theorem d_Mo_poke_41 : decode b_Mo_poke 41 = .ok (.iconst 1, 1) := by decide +kernel
theorem d_Mo_poke_42 : decode b_Mo_poke 42 = .ok (.ireturn, 1) := by decide +kernel
theorem d_Mo_pokeFour_0 : decode b_Mo_pokeFour 0 = .ok (.aload_n 0, 1) := by decide +kernel
theorem d_Mo_pokeFour_1 : decode b_Mo_pokeFour 1 = .ok (.iconst 0, 1) := by decide +kernel
theorem d_Mo_pokeFour_2 : decode b_Mo_pokeFour 2 = .ok (.putfield 45, 3) := by decide +kernel
theorem d_Mo_pokeFour_5 : decode b_Mo_pokeFour 5 = .ok (.iconst 0, 1) := by decide +kernel
theorem d_Mo_pokeFour_6 : decode b_Mo_pokeFour 6 = .ok (.istore_n 3, 1) := by decide +kernel
theorem d_Mo_pokeFour_7 : decode b_Mo_pokeFour 7 = .ok (.iload_n 3, 1) := by decide +kernel
theorem d_Mo_pokeFour_8 : decode b_Mo_pokeFour 8 = .ok (.iconst 4, 1) := by decide +kernel
theorem d_Mo_pokeFour_9 : decode b_Mo_pokeFour 9 = .ok (.if_icmp .ge 25, 3) := by decide +kernel
theorem d_Mo_pokeFour_12 : decode b_Mo_pokeFour 12 = .ok (.aload_n 0, 1) := by decide +kernel
theorem d_Mo_pokeFour_13 : decode b_Mo_pokeFour 13 = .ok (.iconst 0, 1) := by decide +kernel
theorem d_Mo_pokeFour_14 : decode b_Mo_pokeFour 14 = .ok (.iload_n 1, 1) := by decide +kernel
theorem d_Mo_pokeFour_15 : decode b_Mo_pokeFour 15 = .ok (.i2l, 1) := by decide +kernel
theorem d_Mo_pokeFour_16 : decode b_Mo_pokeFour 16 = .ok (.iload_n 3, 1) := by decide +kernel
theorem d_Mo_pokeFour_17 : decode b_Mo_pokeFour 17 = .ok (.i2l, 1) := by decide +kernel
theorem d_Mo_pokeFour_18 : decode b_Mo_pokeFour 18 = .ok (.ladd, 1) := by decide +kernel
theorem d_Mo_pokeFour_19 : decode b_Mo_pokeFour 19 = .ok (.invokevirtual 48, 3) := by decide +kernel
theorem d_Mo_pokeFour_22 : decode b_Mo_pokeFour 22 = .ok (.iconst (-1), 1) := by decide +kernel
theorem d_Mo_pokeFour_23 : decode b_Mo_pokeFour 23 = .ok (.if_icmp .ne 5, 3) := by decide +kernel
theorem d_Mo_pokeFour_26 : decode b_Mo_pokeFour 26 = .ok (.iconst 0, 1) := by decide +kernel
theorem d_Mo_pokeFour_27 : decode b_Mo_pokeFour 27 = .ok (.ireturn, 1) := by decide +kernel
theorem d_Mo_pokeFour_28 : decode b_Mo_pokeFour 28 = .ok (.iinc 3 1, 3) := by decide +kernel
theorem d_Mo_pokeFour_31 : decode b_Mo_pokeFour 31 = .ok (.goto (-24), 3) := by decide +kernel
theorem d_Mo_pokeFour_34 : decode b_Mo_pokeFour 34 = .ok (.iconst 0, 1) := by decide +kernel
theorem d_Mo_pokeFour_35 : decode b_Mo_pokeFour 35 = .ok (.istore_n 3, 1) := by decide +kernel
theorem d_Mo_pokeFour_36 : decode b_Mo_pokeFour 36 = .ok (.iload_n 3, 1) := by decide +kernel
theorem d_Mo_pokeFour_37 : decode b_Mo_pokeFour 37 = .ok (.iconst 4, 1) := by decide +kernel
theorem d_Mo_pokeFour_38 : decode b_Mo_pokeFour 38 = .ok (.if_icmp .ge 51, 3) := by decide +kernel
theorem d_Mo_pokeFour_41 : decode b_Mo_pokeFour 41 = .ok (.aload_n 0, 1) := by decide +kernel
theorem d_Mo_pokeFour_42 : decode b_Mo_pokeFour 42 = .ok (.iconst 0, 1) := by decide +kernel
theorem d_Mo_pokeFour_43 : decode b_Mo_pokeFour 43 = .ok (.iload_n 1, 1) := by decide +kernel
theorem d_Mo_pokeFour_44 : decode b_Mo_pokeFour 44 = .ok (.i2l, 1) := by decide +kernel
theorem d_Mo_pokeFour_45 : decode b_Mo_pokeFour 45 = .ok (.iload_n 3, 1) := by decide +kernel
theorem d_Mo_pokeFour_46 : decode b_Mo_pokeFour 46 = .ok (.i2l, 1) := by decide +kernel
theorem d_Mo_pokeFour_47 : decode b_Mo_pokeFour 47 = .ok (.ladd, 1) := by decide +kernel
theorem d_Mo_pokeFour_48 : decode b_Mo_pokeFour 48 = .ok (.invokevirtual 48, 3) := by decide +kernel
theorem d_Mo_pokeFour_51 : decode b_Mo_pokeFour 51 = .ok (.istore 4, 2) := by decide +kernel
theorem d_Mo_pokeFour_53 : decode b_Mo_pokeFour 53 = .ok (.aload_n 0, 1) := by decide +kernel
theorem d_Mo_pokeFour_54 : decode b_Mo_pokeFour 54 = .ok (.getfield 19, 3) := by decide +kernel
theorem d_Mo_pokeFour_57 : decode b_Mo_pokeFour 57 = .ok (.sipush 1024, 3) := by decide +kernel
theorem d_Mo_pokeFour_60 : decode b_Mo_pokeFour 60 = .ok (.iload 4, 2) := by decide +kernel
theorem d_Mo_pokeFour_62 : decode b_Mo_pokeFour 62 = .ok (.imul, 1) := by decide +kernel
theorem d_Mo_pokeFour_63 : decode b_Mo_pokeFour 63 = .ok (.iload_n 1, 1) := by decide +kernel
theorem d_Mo_pokeFour_64 : decode b_Mo_pokeFour 64 = .ok (.iadd, 1) := by decide +kernel
theorem d_Mo_pokeFour_65 : decode b_Mo_pokeFour 65 = .ok (.iload_n 3, 1) := by decide +kernel
theorem d_Mo_pokeFour_66 : decode b_Mo_pokeFour 66 = .ok (.iadd, 1) := by decide +kernel
theorem d_Mo_pokeFour_67 : decode b_Mo_pokeFour 67 = .ok (.aload_n 0, 1) := by decide +kernel
theorem d_Mo_pokeFour_68 : decode b_Mo_pokeFour 68 = .ok (.getfield 7, 3) := by decide +kernel
theorem d_Mo_pokeFour_71 : decode b_Mo_pokeFour 71 = .ok (.iload 4, 2) := by decide +kernel
theorem d_Mo_pokeFour_73 : decode b_Mo_pokeFour 73 = .ok (.iaload, 1) := by decide +kernel
theorem d_Mo_pokeFour_74 : decode b_Mo_pokeFour 74 = .ok (.isub, 1) := by decide +kernel
theorem d_Mo_pokeFour_75 : decode b_Mo_pokeFour 75 = .ok (.iload_n 2, 1) := by decide +kernel
theorem d_Mo_pokeFour_76 : decode b_Mo_pokeFour 76 = .ok (.bipush 8, 2) := by decide +kernel
theorem d_Mo_pokeFour_78 : decode b_Mo_pokeFour 78 = .ok (.iload_n 3, 1) := by decide +kernel
theorem d_Mo_pokeFour_79 : decode b_Mo_pokeFour 79 = .ok (.imul, 1) := by decide +kernel
theorem d_Mo_pokeFour_80 : decode b_Mo_pokeFour 80 = .ok (.ishr, 1) := by decide +kernel
theorem d_Mo_pokeFour_81 : decode b_Mo_pokeFour 81 = .ok (.i2b, 1) := by decide +kernel
theorem d_Mo_pokeFour_82 : decode b_Mo_pokeFour 82 = .ok (.bastore, 1) := by decide +kernel
theorem d_Mo_pokeFour_83 : decode b_Mo_pokeFour 83 = .ok (.iinc 3 1, 3) := by decide +kernel
theorem d_Mo_pokeFour_86 : decode b_Mo_pokeFour 86 = .ok (.goto (-50), 3) := by decide +kernel
theorem d_Mo_pokeFour_89 : decode b_Mo_pokeFour 89 = .ok (.iconst 1, 1) := by decide +kernel
theorem d_Mo_pokeFour_90 : decode b_Mo_pokeFour 90 = .ok (.ireturn, 1) := by decide +kernel
theorem d_Mo_hasId_0 : decode b_Mo_hasId 0 = .ok (.iconst 0, 1) := by decide +kernel
theorem d_Mo_hasId_1 : decode b_Mo_hasId 1 = .ok (.istore_n 3, 1) := by decide +kernel
theorem d_Mo_hasId_2 : decode b_Mo_hasId 2 = .ok (.iconst 3, 1) := by decide +kernel
theorem d_Mo_hasId_3 : decode b_Mo_hasId 3 = .ok (.iload_n 1, 1) := by decide +kernel
theorem d_Mo_hasId_4 : decode b_Mo_hasId 4 = .ok (.imul, 1) := by decide +kernel
theorem d_Mo_hasId_5 : decode b_Mo_hasId 5 = .ok (.istore 4, 2) := by decide +kernel
theorem d_Mo_hasId_7 : decode b_Mo_hasId 7 = .ok (.iload 4, 2) := by decide +kernel
theorem d_Mo_hasId_9 : decode b_Mo_hasId 9 = .ok (.iconst 3, 1) := by decide +kernel
theorem d_Mo_hasId_10 : decode b_Mo_hasId 10 = .ok (.iload_n 1, 1) := by decide +kernel
theorem d_Mo_hasId_11 : decode b_Mo_hasId 11 = .ok (.imul, 1) := by decide +kernel
theorem d_Mo_hasId_12 : decode b_Mo_hasId 12 = .ok (.aload_n 0, 1) := by decide +kernel
theorem d_Mo_hasId_13 : decode b_Mo_hasId 13 = .ok (.getfield 26, 3) := by decide +kernel
theorem d_Mo_hasId_16 : decode b_Mo_hasId 16 = .ok (.iload_n 1, 1) := by decide +kernel
theorem d_Mo_hasId_17 : decode b_Mo_hasId 17 = .ok (.iaload, 1) := by decide +kernel
theorem d_Mo_hasId_18 : decode b_Mo_hasId 18 = .ok (.iadd, 1) := by decide +kernel
theorem d_Mo_hasId_19 : decode b_Mo_hasId 19 = .ok (.if_icmp .ge 30, 3) := by decide +kernel
theorem d_Mo_hasId_22 : decode b_Mo_hasId 22 = .ok (.iload_n 3, 1) := by decide +kernel
theorem d_Mo_hasId_23 : decode b_Mo_hasId 23 = .ok (.ifCond .ne 14, 3) := by decide +kernel
theorem d_Mo_hasId_26 : decode b_Mo_hasId 26 = .ok (.aload_n 0, 1) := by decide +kernel
theorem d_Mo_hasId_27 : decode b_Mo_hasId 27 = .ok (.getfield 29, 3) := by decide +kernel
theorem d_Mo_hasId_30 : decode b_Mo_hasId 30 = .ok (.iload 4, 2) := by decide +kernel
theorem d_Mo_hasId_32 : decode b_Mo_hasId 32 = .ok (.iaload, 1) := by decide +kernel
theorem d_Mo_hasId_33 : decode b_Mo_hasId 33 = .ok (.iload_n 2, 1) := by decide +kernel
theorem d_Mo_hasId_34 : decode b_Mo_hasId 34 = .ok (.if_icmp .ne 7, 3) := by decide +kernel
theorem d_Mo_hasId_37 : decode b_Mo_hasId 37 = .ok (.iconst 1, 1) := by decide +kernel
theorem d_Mo_hasId_38 : decode b_Mo_hasId 38 = .ok (.goto 4, 3) := by decide +kernel
theorem d_Mo_hasId_41 : decode b_Mo_hasId 41 = .ok (.iconst 0, 1) := by decide +kernel
theorem d_Mo_hasId_42 : decode b_Mo_hasId 42 = .ok (.istore_n 3, 1) := by decide +kernel
theorem d_Mo_hasId_43 : decode b_Mo_hasId 43 = .ok (.iinc 4 1, 3) := by decide +kernel
theorem d_Mo_hasId_46 : decode b_Mo_hasId 46 = .ok (.goto (-39), 3) := by decide +kernel
theorem d_Mo_hasId_49 : decode b_Mo_hasId 49 = .ok (.iload_n 3, 1) := by decide +kernel
theorem d_Mo_hasId_50 : decode b_Mo_hasId 50 = .ok (.ireturn, 1) := by decide +kernel
theorem d_Mo_thread_0 : decode b_Mo_thread 0 = .ok (.aload_n 0, 1) := by decide +kernel
theorem d_Mo_thread_1 : decode b_Mo_thread 1 = .ok (.iconst 0, 1) := by decide +kernel
theorem d_Mo_thread_2 : decode b_Mo_thread 2 = .ok (.putfield 45, 3) := by decide +kernel
theorem d_Mo_thread_5 : decode b_Mo_thread 5 = .ok (.aload_n 0, 1) := by decide +kernel
theorem d_Mo_thread_6 : decode b_Mo_thread 6 = .ok (.getfield 26, 3) := by decide +kernel
theorem d_Mo_thread_9 : decode b_Mo_thread 9 = .ok (.iconst 0, 1) := by decide +kernel
theorem d_Mo_thread_10 : decode b_Mo_thread 10 = .ok (.iaload, 1) := by decide +kernel
theorem d_Mo_thread_11 : decode b_Mo_thread 11 = .ok (.iconst 3, 1) := by decide +kernel
theorem d_Mo_thread_12 : decode b_Mo_thread 12 = .ok (.if_icmp .eq 12, 3) := by decide +kernel
theorem d_Mo_thread_15 : decode b_Mo_thread 15 = .ok (.aload_n 0, 1) := by decide +kernel
theorem d_Mo_thread_16 : decode b_Mo_thread 16 = .ok (.iconst 0, 1) := by decide +kernel
theorem d_Mo_thread_17 : decode b_Mo_thread 17 = .ok (.iload_n 1, 1) := by decide +kernel
theorem d_Mo_thread_18 : decode b_Mo_thread 18 = .ok (.invokevirtual 58, 3) := by decide +kernel
theorem d_Mo_thread_21 : decode b_Mo_thread 21 = .ok (.ifCond .eq 5, 3) := by decide +kernel
theorem d_Mo_thread_24 : decode b_Mo_thread 24 = .ok (.iconst (-1), 1) := by decide +kernel
theorem d_Mo_thread_25 : decode b_Mo_thread 25 = .ok (.ireturn, 1) := by decide +kernel
theorem d_Mo_thread_26 : decode b_Mo_thread 26 = .ok (.aload_n 0, 1) := by decide +kernel
theorem d_Mo_thread_27 : decode b_Mo_thread 27 = .ok (.getfield 29, 3) := by decide +kernel
theorem d_Mo_thread_30 : decode b_Mo_thread 30 = .ok (.aload_n 0, 1) := by decide +kernel
theorem d_Mo_thread_31 : decode b_Mo_thread 31 = .ok (.getfield 26, 3) := by decide +kernel
theorem d_Mo_thread_34 : decode b_Mo_thread 34 = .ok (.iconst 0, 1) := by decide +kernel
theorem d_Mo_thread_35 : decode b_Mo_thread 35 = .ok (.iaload, 1) := by decide +kernel
theorem d_Mo_thread_36 : decode b_Mo_thread 36 = .ok (.iload_n 1, 1) := by decide +kernel
theorem d_Mo_thread_37 : decode b_Mo_thread 37 = .ok (.iastore, 1) := by decide +kernel
theorem d_Mo_thread_38 : decode b_Mo_thread 38 = .ok (.iconst 0, 1) := by decide +kernel
theorem d_Mo_thread_39 : decode b_Mo_thread 39 = .ok (.istore_n 2, 1) := by decide +kernel
theorem d_Mo_thread_40 : decode b_Mo_thread 40 = .ok (.iload_n 2, 1) := by decide +kernel
theorem d_Mo_thread_41 : decode b_Mo_thread 41 = .ok (.bipush 8, 2) := by decide +kernel
theorem d_Mo_thread_43 : decode b_Mo_thread 43 = .ok (.if_icmp .ge 26, 3) := by decide +kernel
theorem d_Mo_thread_46 : decode b_Mo_thread 46 = .ok (.aload_n 0, 1) := by decide +kernel
theorem d_Mo_thread_47 : decode b_Mo_thread 47 = .ok (.getfield 32, 3) := by decide +kernel
theorem d_Mo_thread_50 : decode b_Mo_thread 50 = .ok (.bipush 8, 2) := by decide +kernel
theorem d_Mo_thread_52 : decode b_Mo_thread 52 = .ok (.aload_n 0, 1) := by decide +kernel
theorem d_Mo_thread_53 : decode b_Mo_thread 53 = .ok (.getfield 26, 3) := by decide +kernel
theorem d_Mo_thread_56 : decode b_Mo_thread 56 = .ok (.iconst 0, 1) := by decide +kernel
theorem d_Mo_thread_57 : decode b_Mo_thread 57 = .ok (.iaload, 1) := by decide +kernel
theorem d_Mo_thread_58 : decode b_Mo_thread 58 = .ok (.imul, 1) := by decide +kernel
theorem d_Mo_thread_59 : decode b_Mo_thread 59 = .ok (.iload_n 2, 1) := by decide +kernel
theorem d_Mo_thread_60 : decode b_Mo_thread 60 = .ok (.iadd, 1) := by decide +kernel
theorem d_Mo_thread_61 : decode b_Mo_thread 61 = .ok (.iconst 0, 1) := by decide +kernel
theorem d_Mo_thread_62 : decode b_Mo_thread 62 = .ok (.iastore, 1) := by decide +kernel
theorem d_Mo_thread_63 : decode b_Mo_thread 63 = .ok (.iinc 2 1, 3) := by decide +kernel
theorem d_Mo_thread_66 : decode b_Mo_thread 66 = .ok (.goto (-26), 3) := by decide +kernel
theorem d_Mo_thread_69 : decode b_Mo_thread 69 = .ok (.aload_n 0, 1) := by decide +kernel
theorem d_Mo_thread_70 : decode b_Mo_thread 70 = .ok (.getfield 26, 3) := by decide +kernel
theorem d_Mo_thread_73 : decode b_Mo_thread 73 = .ok (.iconst 0, 1) := by decide +kernel
theorem d_Mo_thread_74 : decode b_Mo_thread 74 = .ok (.dup2, 1) := by decide +kernel
theorem d_Mo_thread_75 : decode b_Mo_thread 75 = .ok (.iaload, 1) := by decide +kernel
theorem d_Mo_thread_76 : decode b_Mo_thread 76 = .ok (.iconst 1, 1) := by decide +kernel
theorem d_Mo_thread_77 : decode b_Mo_thread 77 = .ok (.iadd, 1) := by decide +kernel
theorem d_Mo_thread_78 : decode b_Mo_thread 78 = .ok (.iastore, 1) := by decide +kernel
theorem d_Mo_thread_79 : decode b_Mo_thread 79 = .ok (.aload_n 0, 1) := by decide +kernel
theorem d_Mo_thread_80 : decode b_Mo_thread 80 = .ok (.getfield 26, 3) := by decide +kernel
theorem d_Mo_thread_83 : decode b_Mo_thread 83 = .ok (.iconst 0, 1) := by decide +kernel
theorem d_Mo_thread_84 : decode b_Mo_thread 84 = .ok (.iaload, 1) := by decide +kernel
theorem d_Mo_thread_85 : decode b_Mo_thread 85 = .ok (.iconst 1, 1) := by decide +kernel
theorem d_Mo_thread_86 : decode b_Mo_thread 86 = .ok (.isub, 1) := by decide +kernel
theorem d_Mo_thread_87 : decode b_Mo_thread 87 = .ok (.ireturn, 1) := by decide +kernel
theorem d_Mo_set_0 : decode b_Mo_set 0 = .ok (.aload_n 0, 1) := by decide +kernel
theorem d_Mo_set_1 : decode b_Mo_set 1 = .ok (.iconst 0, 1) := by decide +kernel
theorem d_Mo_set_2 : decode b_Mo_set 2 = .ok (.putfield 45, 3) := by decide +kernel
theorem d_Mo_set_5 : decode b_Mo_set 5 = .ok (.iload_n 1, 1) := by decide +kernel
theorem d_Mo_set_6 : decode b_Mo_set 6 = .ok (.ifCond .lt 23, 3) := by decide +kernel
theorem d_Mo_set_9 : decode b_Mo_set 9 = .ok (.iload_n 1, 1) := by decide +kernel
theorem d_Mo_set_10 : decode b_Mo_set 10 = .ok (.aload_n 0, 1) := by decide +kernel
theorem d_Mo_set_11 : decode b_Mo_set 11 = .ok (.getfield 26, 3) := by decide +kernel
theorem d_Mo_set_14 : decode b_Mo_set 14 = .ok (.iconst 0, 1) := by decide +kernel
theorem d_Mo_set_15 : decode b_Mo_set 15 = .ok (.iaload, 1) := by decide +kernel
theorem d_Mo_set_16 : decode b_Mo_set 16 = .ok (.if_icmp .ge 13, 3) := by decide +kernel
theorem d_Mo_set_19 : decode b_Mo_set 19 = .ok (.iload_n 2, 1) := by decide +kernel
theorem d_Mo_set_20 : decode b_Mo_set 20 = .ok (.ifCond .lt 9, 3) := by decide +kernel
theorem d_Mo_set_23 : decode b_Mo_set 23 = .ok (.iload_n 2, 1) := by decide +kernel
theorem d_Mo_set_24 : decode b_Mo_set 24 = .ok (.bipush 7, 2) := by decide +kernel
theorem d_Mo_set_26 : decode b_Mo_set 26 = .ok (.if_icmp .le 5, 3) := by decide +kernel
theorem d_Mo_set_29 : decode b_Mo_set 29 = .ok (.iconst 0, 1) := by decide +kernel
theorem d_Mo_set_30 : decode b_Mo_set 30 = .ok (.ireturn, 1) := by decide +kernel
theorem d_Mo_set_31 : decode b_Mo_set 31 = .ok (.aload_n 0, 1) := by decide +kernel
theorem d_Mo_set_32 : decode b_Mo_set 32 = .ok (.getfield 32, 3) := by decide +kernel
theorem d_Mo_set_35 : decode b_Mo_set 35 = .ok (.bipush 8, 2) := by decide +kernel
theorem d_Mo_set_37 : decode b_Mo_set 37 = .ok (.iload_n 1, 1) := by decide +kernel
theorem d_Mo_set_38 : decode b_Mo_set 38 = .ok (.imul, 1) := by decide +kernel
theorem d_Mo_set_39 : decode b_Mo_set 39 = .ok (.iload_n 2, 1) := by decide +kernel
theorem d_Mo_set_40 : decode b_Mo_set 40 = .ok (.iadd, 1) := by decide +kernel
theorem d_Mo_set_41 : decode b_Mo_set 41 = .ok (.iload_n 3, 1) := by decide +kernel
theorem d_Mo_set_42 : decode b_Mo_set 42 = .ok (.iastore, 1) := by decide +kernel
theorem d_Mo_set_43 : decode b_Mo_set 43 = .ok (.iconst 1, 1) := by decide +kernel
theorem d_Mo_set_44 : decode b_Mo_set 44 = .ok (.ireturn, 1) := by decide +kernel
theorem d_Mo_lay_0 : decode b_Mo_lay 0 = .ok (.aload_n 0, 1) := by decide +kernel
theorem d_Mo_lay_1 : decode b_Mo_lay 1 = .ok (.getfield 35, 3) := by decide +kernel
theorem d_Mo_lay_4 : decode b_Mo_lay 4 = .ok (.aload_n 0, 1) := by decide +kernel
theorem d_Mo_lay_5 : decode b_Mo_lay 5 = .ok (.getfield 38, 3) := by decide +kernel
theorem d_Mo_lay_8 : decode b_Mo_lay 8 = .ok (.iload_n 1, 1) := by decide +kernel
theorem d_Mo_lay_9 : decode b_Mo_lay 9 = .ok (.i2b, 1) := by decide +kernel
theorem d_Mo_lay_10 : decode b_Mo_lay 10 = .ok (.bastore, 1) := by decide +kernel
theorem d_Mo_lay_11 : decode b_Mo_lay 11 = .ok (.aload_n 0, 1) := by decide +kernel
theorem d_Mo_lay_12 : decode b_Mo_lay 12 = .ok (.dup, 1) := by decide +kernel
theorem d_Mo_lay_13 : decode b_Mo_lay 13 = .ok (.getfield 38, 3) := by decide +kernel
theorem d_Mo_lay_16 : decode b_Mo_lay 16 = .ok (.iconst 1, 1) := by decide +kernel
theorem d_Mo_lay_17 : decode b_Mo_lay 17 = .ok (.iadd, 1) := by decide +kernel
theorem d_Mo_lay_18 : decode b_Mo_lay 18 = .ok (.putfield 38, 3) := by decide +kernel
theorem d_Mo_lay_21 : decode b_Mo_lay 21 = .ok (.return_, 1) := by decide +kernel
theorem d_Mo_two_0 : decode b_Mo_two 0 = .ok (.aload_n 0, 1) := by decide +kernel
theorem d_Mo_two_1 : decode b_Mo_two 1 = .ok (.iload_n 1, 1) := by decide +kernel
theorem d_Mo_two_2 : decode b_Mo_two 2 = .ok (.invokevirtual 62, 3) := by decide +kernel
theorem d_Mo_two_5 : decode b_Mo_two 5 = .ok (.aload_n 0, 1) := by decide +kernel
theorem d_Mo_two_6 : decode b_Mo_two 6 = .ok (.iload_n 1, 1) := by decide +kernel
theorem d_Mo_two_7 : decode b_Mo_two 7 = .ok (.bipush 8, 2) := by decide +kernel
theorem d_Mo_two_9 : decode b_Mo_two 9 = .ok (.ishr, 1) := by decide +kernel
theorem d_Mo_two_10 : decode b_Mo_two 10 = .ok (.invokevirtual 62, 3) := by decide +kernel
theorem d_Mo_two_13 : decode b_Mo_two 13 = .ok (.return_, 1) := by decide +kernel
theorem d_Mo_four_0 : decode b_Mo_four 0 = .ok (.aload_n 0, 1) := by decide +kernel
theorem d_Mo_four_1 : decode b_Mo_four 1 = .ok (.iload_n 1, 1) := by decide +kernel
theorem d_Mo_four_2 : decode b_Mo_four 2 = .ok (.invokevirtual 66, 3) := by decide +kernel
theorem d_Mo_four_5 : decode b_Mo_four 5 = .ok (.aload_n 0, 1) := by decide +kernel
theorem d_Mo_four_6 : decode b_Mo_four 6 = .ok (.iload_n 1, 1) := by decide +kernel
theorem d_Mo_four_7 : decode b_Mo_four 7 = .ok (.bipush 16, 2) := by decide +kernel
theorem d_Mo_four_9 : decode b_Mo_four 9 = .ok (.ishr, 1) := by decide +kernel
theorem d_Mo_four_10 : decode b_Mo_four 10 = .ok (.invokevirtual 66, 3) := by decide +kernel
theorem d_Mo_four_13 : decode b_Mo_four 13 = .ok (.return_, 1) := by decide +kernel
theorem d_Mo_filled_0 : decode b_Mo_filled 0 = .ok (.iconst 0, 1) := by decide +kernel
theorem d_Mo_filled_1 : decode b_Mo_filled 1 = .ok (.istore_n 2, 1) := by decide +kernel
theorem d_Mo_filled_2 : decode b_Mo_filled 2 = .ok (.iconst 0, 1) := by decide +kernel
theorem d_Mo_filled_3 : decode b_Mo_filled 3 = .ok (.istore_n 3, 1) := by decide +kernel
theorem d_Mo_filled_4 : decode b_Mo_filled 4 = .ok (.iload_n 3, 1) := by decide +kernel
theorem d_Mo_filled_5 : decode b_Mo_filled 5 = .ok (.aload_n 0, 1) := by decide +kernel
theorem d_Mo_filled_6 : decode b_Mo_filled 6 = .ok (.getfield 13, 3) := by decide +kernel
theorem d_Mo_filled_9 : decode b_Mo_filled 9 = .ok (.iload_n 1, 1) := by decide +kernel
theorem d_Mo_filled_10 : decode b_Mo_filled 10 = .ok (.iaload, 1) := by decide +kernel
theorem d_Mo_filled_11 : decode b_Mo_filled 11 = .ok (.if_icmp .ge 39, 3) := by decide +kernel
theorem d_Mo_filled_14 : decode b_Mo_filled 14 = .ok (.aload_n 0, 1) := by decide +kernel
theorem d_Mo_filled_15 : decode b_Mo_filled 15 = .ok (.getfield 19, 3) := by decide +kernel
theorem d_Mo_filled_18 : decode b_Mo_filled 18 = .ok (.sipush 1024, 3) := by decide +kernel
theorem d_Mo_filled_21 : decode b_Mo_filled 21 = .ok (.iload_n 1, 1) := by decide +kernel
theorem d_Mo_filled_22 : decode b_Mo_filled 22 = .ok (.imul, 1) := by decide +kernel
theorem d_Mo_filled_23 : decode b_Mo_filled 23 = .ok (.iload_n 3, 1) := by decide +kernel
theorem d_Mo_filled_24 : decode b_Mo_filled 24 = .ok (.iadd, 1) := by decide +kernel
theorem d_Mo_filled_25 : decode b_Mo_filled 25 = .ok (.baload, 1) := by decide +kernel
theorem d_Mo_filled_26 : decode b_Mo_filled 26 = .ok (.ifCond .eq 16, 3) := by decide +kernel
theorem d_Mo_filled_29 : decode b_Mo_filled 29 = .ok (.bipush 64, 2) := by decide +kernel
theorem d_Mo_filled_31 : decode b_Mo_filled 31 = .ok (.iload_n 3, 1) := by decide +kernel
theorem d_Mo_filled_32 : decode b_Mo_filled 32 = .ok (.bipush 64, 2) := by decide +kernel
theorem d_Mo_filled_34 : decode b_Mo_filled 34 = .ok (.idiv, 1) := by decide +kernel
theorem d_Mo_filled_35 : decode b_Mo_filled 35 = .ok (.imul, 1) := by decide +kernel
theorem d_Mo_filled_36 : decode b_Mo_filled 36 = .ok (.bipush 64, 2) := by decide +kernel
theorem d_Mo_filled_38 : decode b_Mo_filled 38 = .ok (.iadd, 1) := by decide +kernel
theorem d_Mo_filled_39 : decode b_Mo_filled 39 = .ok (.goto 4, 3) := by decide +kernel
theorem d_Mo_filled_42 : decode b_Mo_filled 42 = .ok (.iload_n 2, 1) := by decide +kernel
theorem d_Mo_filled_43 : decode b_Mo_filled 43 = .ok (.istore_n 2, 1) := by decide +kernel
theorem d_Mo_filled_44 : decode b_Mo_filled 44 = .ok (.iinc 3 1, 3) := by decide +kernel
theorem d_Mo_filled_47 : decode b_Mo_filled 47 = .ok (.goto (-43), 3) := by decide +kernel
theorem d_Mo_filled_50 : decode b_Mo_filled 50 = .ok (.iload_n 2, 1) := by decide +kernel
theorem d_Mo_filled_51 : decode b_Mo_filled 51 = .ok (.ireturn, 1) := by decide +kernel
theorem d_Mo_above_0 : decode b_Mo_above 0 = .ok (.iconst (-1), 1) := by decide +kernel
theorem d_Mo_above_1 : decode b_Mo_above 1 = .ok (.istore_n 2, 1) := by decide +kernel
theorem d_Mo_above_2 : decode b_Mo_above 2 = .ok (.iconst 0, 1) := by decide +kernel
theorem d_Mo_above_3 : decode b_Mo_above 3 = .ok (.istore_n 3, 1) := by decide +kernel
theorem d_Mo_above_4 : decode b_Mo_above 4 = .ok (.iload_n 3, 1) := by decide +kernel
theorem d_Mo_above_5 : decode b_Mo_above 5 = .ok (.aload_n 0, 1) := by decide +kernel
theorem d_Mo_above_6 : decode b_Mo_above 6 = .ok (.getfield 23, 3) := by decide +kernel
theorem d_Mo_above_9 : decode b_Mo_above 9 = .ok (.iconst 0, 1) := by decide +kernel
theorem d_Mo_above_10 : decode b_Mo_above 10 = .ok (.iaload, 1) := by decide +kernel
theorem d_Mo_above_11 : decode b_Mo_above 11 = .ok (.if_icmp .ge 41, 3) := by decide +kernel
theorem d_Mo_above_14 : decode b_Mo_above 14 = .ok (.aload_n 0, 1) := by decide +kernel
theorem d_Mo_above_15 : decode b_Mo_above 15 = .ok (.getfield 7, 3) := by decide +kernel
theorem d_Mo_above_18 : decode b_Mo_above 18 = .ok (.iload_n 3, 1) := by decide +kernel
theorem d_Mo_above_19 : decode b_Mo_above 19 = .ok (.iaload, 1) := by decide +kernel
theorem d_Mo_above_20 : decode b_Mo_above 20 = .ok (.iload_n 1, 1) := by decide +kernel
theorem d_Mo_above_21 : decode b_Mo_above 21 = .ok (.if_icmp .le 25, 3) := by decide +kernel
theorem d_Mo_above_24 : decode b_Mo_above 24 = .ok (.iload_n 2, 1) := by decide +kernel
theorem d_Mo_above_25 : decode b_Mo_above 25 = .ok (.iconst (-1), 1) := by decide +kernel
theorem d_Mo_above_26 : decode b_Mo_above 26 = .ok (.if_icmp .eq 18, 3) := by decide +kernel
theorem d_Mo_above_29 : decode b_Mo_above 29 = .ok (.aload_n 0, 1) := by decide +kernel
theorem d_Mo_above_30 : decode b_Mo_above 30 = .ok (.getfield 7, 3) := by decide +kernel
theorem d_Mo_above_33 : decode b_Mo_above 33 = .ok (.iload_n 3, 1) := by decide +kernel
theorem d_Mo_above_34 : decode b_Mo_above 34 = .ok (.iaload, 1) := by decide +kernel
theorem d_Mo_above_35 : decode b_Mo_above 35 = .ok (.aload_n 0, 1) := by decide +kernel
theorem d_Mo_above_36 : decode b_Mo_above 36 = .ok (.getfield 7, 3) := by decide +kernel
theorem d_Mo_above_39 : decode b_Mo_above 39 = .ok (.iload_n 2, 1) := by decide +kernel
theorem d_Mo_above_40 : decode b_Mo_above 40 = .ok (.iaload, 1) := by decide +kernel
theorem d_Mo_above_41 : decode b_Mo_above 41 = .ok (.if_icmp .ge 5, 3) := by decide +kernel
theorem d_Mo_above_44 : decode b_Mo_above 44 = .ok (.iload_n 3, 1) := by decide +kernel
theorem d_Mo_above_45 : decode b_Mo_above 45 = .ok (.istore_n 2, 1) := by decide +kernel
theorem d_Mo_above_46 : decode b_Mo_above 46 = .ok (.iinc 3 1, 3) := by decide +kernel
theorem d_Mo_above_49 : decode b_Mo_above 49 = .ok (.goto (-45), 3) := by decide +kernel
theorem d_Mo_above_52 : decode b_Mo_above 52 = .ok (.iload_n 2, 1) := by decide +kernel
theorem d_Mo_above_53 : decode b_Mo_above 53 = .ok (.ireturn, 1) := by decide +kernel
theorem d_Mo_programHeader_0 : decode b_Mo_programHeader 0 = .ok (.aload_n 0, 1) := by decide +kernel
theorem d_Mo_programHeader_1 : decode b_Mo_programHeader 1 = .ok (.iload_n 1, 1) := by decide +kernel
theorem d_Mo_programHeader_2 : decode b_Mo_programHeader 2 = .ok (.invokevirtual 69, 3) := by decide +kernel
theorem d_Mo_programHeader_5 : decode b_Mo_programHeader 5 = .ok (.aload_n 0, 1) := by decide +kernel
theorem d_Mo_programHeader_6 : decode b_Mo_programHeader 6 = .ok (.iload_n 2, 1) := by decide +kernel
theorem d_Mo_programHeader_7 : decode b_Mo_programHeader 7 = .ok (.invokevirtual 69, 3) := by decide +kernel
theorem d_Mo_programHeader_10 : decode b_Mo_programHeader 10 = .ok (.aload_n 0, 1) := by decide +kernel
theorem d_Mo_programHeader_11 : decode b_Mo_programHeader 11 = .ok (.iload_n 3, 1) := by decide +kernel
theorem d_Mo_programHeader_12 : decode b_Mo_programHeader 12 = .ok (.invokevirtual 69, 3) := by decide +kernel
theorem d_Mo_programHeader_15 : decode b_Mo_programHeader 15 = .ok (.aload_n 0, 1) := by decide +kernel
theorem d_Mo_programHeader_16 : decode b_Mo_programHeader 16 = .ok (.iconst 0, 1) := by decide +kernel
theorem d_Mo_programHeader_17 : decode b_Mo_programHeader 17 = .ok (.invokevirtual 69, 3) := by decide +kernel
theorem d_Mo_programHeader_20 : decode b_Mo_programHeader 20 = .ok (.aload_n 0, 1) := by decide +kernel
theorem d_Mo_programHeader_21 : decode b_Mo_programHeader 21 = .ok (.iload 4, 2) := by decide +kernel
theorem d_Mo_programHeader_23 : decode b_Mo_programHeader 23 = .ok (.invokevirtual 69, 3) := by decide +kernel
theorem d_Mo_programHeader_26 : decode b_Mo_programHeader 26 = .ok (.aload_n 0, 1) := by decide +kernel
theorem d_Mo_programHeader_27 : decode b_Mo_programHeader 27 = .ok (.iload 5, 2) := by decide +kernel
theorem d_Mo_programHeader_29 : decode b_Mo_programHeader 29 = .ok (.invokevirtual 69, 3) := by decide +kernel
theorem d_Mo_programHeader_32 : decode b_Mo_programHeader 32 = .ok (.aload_n 0, 1) := by decide +kernel
theorem d_Mo_programHeader_33 : decode b_Mo_programHeader 33 = .ok (.iload 6, 2) := by decide +kernel
theorem d_Mo_programHeader_35 : decode b_Mo_programHeader 35 = .ok (.invokevirtual 69, 3) := by decide +kernel
theorem d_Mo_programHeader_38 : decode b_Mo_programHeader 38 = .ok (.aload_n 0, 1) := by decide +kernel
theorem d_Mo_programHeader_39 : decode b_Mo_programHeader 39 = .ok (.iload 7, 2) := by decide +kernel
theorem d_Mo_programHeader_41 : decode b_Mo_programHeader 41 = .ok (.invokevirtual 69, 3) := by decide +kernel
theorem d_Mo_programHeader_44 : decode b_Mo_programHeader 44 = .ok (.return_, 1) := by decide +kernel
theorem d_Mo_header_0 : decode b_Mo_header 0 = .ok (.aload_n 0, 1) := by decide +kernel
theorem d_Mo_header_1 : decode b_Mo_header 1 = .ok (.bipush 127, 2) := by decide +kernel
theorem d_Mo_header_3 : decode b_Mo_header 3 = .ok (.invokevirtual 62, 3) := by decide +kernel
theorem d_Mo_header_6 : decode b_Mo_header 6 = .ok (.aload_n 0, 1) := by decide +kernel
theorem d_Mo_header_7 : decode b_Mo_header 7 = .ok (.bipush 69, 2) := by decide +kernel
theorem d_Mo_header_9 : decode b_Mo_header 9 = .ok (.invokevirtual 62, 3) := by decide +kernel
theorem d_Mo_header_12 : decode b_Mo_header 12 = .ok (.aload_n 0, 1) := by decide +kernel
theorem d_Mo_header_13 : decode b_Mo_header 13 = .ok (.bipush 76, 2) := by decide +kernel
theorem d_Mo_header_15 : decode b_Mo_header 15 = .ok (.invokevirtual 62, 3) := by decide +kernel
theorem d_Mo_header_18 : decode b_Mo_header 18 = .ok (.aload_n 0, 1) := by decide +kernel
theorem d_Mo_header_19 : decode b_Mo_header 19 = .ok (.bipush 70, 2) := by decide +kernel
theorem d_Mo_header_21 : decode b_Mo_header 21 = .ok (.invokevirtual 62, 3) := by decide +kernel
theorem d_Mo_header_24 : decode b_Mo_header 24 = .ok (.iconst 0, 1) := by decide +kernel
theorem d_Mo_header_25 : decode b_Mo_header 25 = .ok (.istore_n 1, 1) := by decide +kernel
theorem d_Mo_header_26 : decode b_Mo_header 26 = .ok (.iload_n 1, 1) := by decide +kernel
theorem d_Mo_header_27 : decode b_Mo_header 27 = .ok (.bipush 12, 2) := by decide +kernel
theorem d_Mo_header_29 : decode b_Mo_header 29 = .ok (.if_icmp .ge 23, 3) := by decide +kernel
theorem d_Mo_header_32 : decode b_Mo_header 32 = .ok (.aload_n 0, 1) := by decide +kernel
theorem d_Mo_header_33 : decode b_Mo_header 33 = .ok (.iload_n 1, 1) := by decide +kernel
theorem d_Mo_header_34 : decode b_Mo_header 34 = .ok (.iconst 3, 1) := by decide +kernel
theorem d_Mo_header_35 : decode b_Mo_header 35 = .ok (.if_icmp .ge 7, 3) := by decide +kernel
theorem d_Mo_header_38 : decode b_Mo_header 38 = .ok (.iconst 1, 1) := by decide +kernel
theorem d_Mo_header_39 : decode b_Mo_header 39 = .ok (.goto 4, 3) := by decide +kernel
theorem d_Mo_header_42 : decode b_Mo_header 42 = .ok (.iconst 0, 1) := by decide +kernel
theorem d_Mo_header_43 : decode b_Mo_header 43 = .ok (.invokevirtual 62, 3) := by decide +kernel
theorem d_Mo_header_46 : decode b_Mo_header 46 = .ok (.iinc 1 1, 3) := by decide +kernel
theorem d_Mo_header_49 : decode b_Mo_header 49 = .ok (.goto (-23), 3) := by decide +kernel
theorem d_Mo_header_52 : decode b_Mo_header 52 = .ok (.aload_n 0, 1) := by decide +kernel
theorem d_Mo_header_53 : decode b_Mo_header 53 = .ok (.iconst 4, 1) := by decide +kernel
theorem d_Mo_header_54 : decode b_Mo_header 54 = .ok (.invokevirtual 66, 3) := by decide +kernel
theorem d_Mo_header_57 : decode b_Mo_header 57 = .ok (.aload_n 0, 1) := by decide +kernel
theorem d_Mo_header_58 : decode b_Mo_header 58 = .ok (.bipush 8, 2) := by decide +kernel
theorem d_Mo_header_60 : decode b_Mo_header 60 = .ok (.invokevirtual 66, 3) := by decide +kernel
theorem d_Mo_header_63 : decode b_Mo_header 63 = .ok (.aload_n 0, 1) := by decide +kernel
theorem d_Mo_header_64 : decode b_Mo_header 64 = .ok (.iconst 1, 1) := by decide +kernel
theorem d_Mo_header_65 : decode b_Mo_header 65 = .ok (.invokevirtual 69, 3) := by decide +kernel
theorem d_Mo_header_68 : decode b_Mo_header 68 = .ok (.aload_n 0, 1) := by decide +kernel
theorem d_Mo_header_69 : decode b_Mo_header 69 = .ok (.iconst 0, 1) := by decide +kernel
theorem d_Mo_header_70 : decode b_Mo_header 70 = .ok (.invokevirtual 69, 3) := by decide +kernel
theorem d_Mo_header_73 : decode b_Mo_header 73 = .ok (.aload_n 0, 1) := by decide +kernel
theorem d_Mo_header_74 : decode b_Mo_header 74 = .ok (.bipush 52, 2) := by decide +kernel
theorem d_Mo_header_76 : decode b_Mo_header 76 = .ok (.invokevirtual 69, 3) := by decide +kernel
theorem d_Mo_header_79 : decode b_Mo_header 79 = .ok (.aload_n 0, 1) := by decide +kernel
theorem d_Mo_header_80 : decode b_Mo_header 80 = .ok (.iconst 0, 1) := by decide +kernel
theorem d_Mo_header_81 : decode b_Mo_header 81 = .ok (.invokevirtual 69, 3) := by decide +kernel
theorem d_Mo_header_84 : decode b_Mo_header 84 = .ok (.aload_n 0, 1) := by decide +kernel
theorem d_Mo_header_85 : decode b_Mo_header 85 = .ok (.iconst 0, 1) := by decide +kernel
theorem d_Mo_header_86 : decode b_Mo_header 86 = .ok (.invokevirtual 69, 3) := by decide +kernel
theorem d_Mo_header_89 : decode b_Mo_header 89 = .ok (.aload_n 0, 1) := by decide +kernel
theorem d_Mo_header_90 : decode b_Mo_header 90 = .ok (.bipush 52, 2) := by decide +kernel
theorem d_Mo_header_92 : decode b_Mo_header 92 = .ok (.invokevirtual 66, 3) := by decide +kernel
theorem d_Mo_header_95 : decode b_Mo_header 95 = .ok (.aload_n 0, 1) := by decide +kernel
theorem d_Mo_header_96 : decode b_Mo_header 96 = .ok (.bipush 32, 2) := by decide +kernel
theorem d_Mo_header_98 : decode b_Mo_header 98 = .ok (.invokevirtual 66, 3) := by decide +kernel
theorem d_Mo_header_101 : decode b_Mo_header 101 = .ok (.aload_n 0, 1) := by decide +kernel
theorem d_Mo_header_102 : decode b_Mo_header 102 = .ok (.aload_n 0, 1) := by decide +kernel
theorem d_Mo_header_103 : decode b_Mo_header 103 = .ok (.getfield 23, 3) := by decide +kernel
theorem d_Mo_header_106 : decode b_Mo_header 106 = .ok (.iconst 0, 1) := by decide +kernel
theorem d_Mo_header_107 : decode b_Mo_header 107 = .ok (.iaload, 1) := by decide +kernel
theorem d_Mo_header_108 : decode b_Mo_header 108 = .ok (.iconst 1, 1) := by decide +kernel
theorem d_Mo_header_109 : decode b_Mo_header 109 = .ok (.iadd, 1) := by decide +kernel
theorem d_Mo_header_110 : decode b_Mo_header 110 = .ok (.invokevirtual 66, 3) := by decide +kernel
theorem d_Mo_header_113 : decode b_Mo_header 113 = .ok (.aload_n 0, 1) := by decide +kernel
theorem d_Mo_header_114 : decode b_Mo_header 114 = .ok (.iconst 0, 1) := by decide +kernel
theorem d_Mo_header_115 : decode b_Mo_header 115 = .ok (.invokevirtual 66, 3) := by decide +kernel
theorem d_Mo_header_118 : decode b_Mo_header 118 = .ok (.aload_n 0, 1) := by decide +kernel
theorem d_Mo_header_119 : decode b_Mo_header 119 = .ok (.iconst 0, 1) := by decide +kernel
theorem d_Mo_header_120 : decode b_Mo_header 120 = .ok (.invokevirtual 66, 3) := by decide +kernel
theorem d_Mo_header_123 : decode b_Mo_header 123 = .ok (.aload_n 0, 1) := by decide +kernel
theorem d_Mo_header_124 : decode b_Mo_header 124 = .ok (.iconst 0, 1) := by decide +kernel
theorem d_Mo_header_125 : decode b_Mo_header 125 = .ok (.invokevirtual 66, 3) := by decide +kernel
theorem d_Mo_header_128 : decode b_Mo_header 128 = .ok (.return_, 1) := by decide +kernel
theorem d_Mo_dump_0 : decode b_Mo_dump 0 = .ok (.aload_n 0, 1) := by decide +kernel
theorem d_Mo_dump_1 : decode b_Mo_dump 1 = .ok (.iconst 0, 1) := by decide +kernel
theorem d_Mo_dump_2 : decode b_Mo_dump 2 = .ok (.putfield 45, 3) := by decide +kernel
theorem d_Mo_dump_5 : decode b_Mo_dump 5 = .ok (.aload_n 0, 1) := by decide +kernel
theorem d_Mo_dump_6 : decode b_Mo_dump 6 = .ok (.iconst 0, 1) := by decide +kernel
theorem d_Mo_dump_7 : decode b_Mo_dump 7 = .ok (.putfield 38, 3) := by decide +kernel
theorem d_Mo_dump_10 : decode b_Mo_dump 10 = .ok (.aload_n 0, 1) := by decide +kernel
theorem d_Mo_dump_11 : decode b_Mo_dump 11 = .ok (.invokevirtual 72, 3) := by decide +kernel
theorem d_Mo_dump_14 : decode b_Mo_dump 14 = .ok (.bipush 52, 2) := by decide +kernel
theorem d_Mo_dump_16 : decode b_Mo_dump 16 = .ok (.bipush 32, 2) := by decide +kernel
theorem d_Mo_dump_18 : decode b_Mo_dump 18 = .ok (.aload_n 0, 1) := by decide +kernel
theorem d_Mo_dump_19 : decode b_Mo_dump 19 = .ok (.getfield 23, 3) := by decide +kernel
theorem d_Mo_dump_22 : decode b_Mo_dump 22 = .ok (.iconst 0, 1) := by decide +kernel
theorem d_Mo_dump_23 : decode b_Mo_dump 23 = .ok (.iaload, 1) := by decide +kernel
theorem d_Mo_dump_24 : decode b_Mo_dump 24 = .ok (.iconst 1, 1) := by decide +kernel
theorem d_Mo_dump_25 : decode b_Mo_dump 25 = .ok (.iadd, 1) := by decide +kernel
theorem d_Mo_dump_26 : decode b_Mo_dump 26 = .ok (.imul, 1) := by decide +kernel
theorem d_Mo_dump_27 : decode b_Mo_dump 27 = .ok (.iadd, 1) := by decide +kernel
theorem d_Mo_dump_28 : decode b_Mo_dump 28 = .ok (.istore_n 1, 1) := by decide +kernel
theorem d_Mo_dump_29 : decode b_Mo_dump 29 = .ok (.aload_n 0, 1) := by decide +kernel
theorem d_Mo_dump_30 : decode b_Mo_dump 30 = .ok (.iconst 4, 1) := by decide +kernel
theorem d_Mo_dump_31 : decode b_Mo_dump 31 = .ok (.iload_n 1, 1) := by decide +kernel
theorem d_Mo_dump_32 : decode b_Mo_dump 32 = .ok (.iconst 0, 1) := by decide +kernel
theorem d_Mo_dump_33 : decode b_Mo_dump 33 = .ok (.bipush 56, 2) := by decide +kernel
theorem d_Mo_dump_35 : decode b_Mo_dump 35 = .ok (.aload_n 0, 1) := by decide +kernel
theorem d_Mo_dump_36 : decode b_Mo_dump 36 = .ok (.getfield 26, 3) := by decide +kernel
theorem d_Mo_dump_39 : decode b_Mo_dump 39 = .ok (.iconst 0, 1) := by decide +kernel
theorem d_Mo_dump_40 : decode b_Mo_dump 40 = .ok (.iaload, 1) := by decide +kernel
theorem d_Mo_dump_41 : decode b_Mo_dump 41 = .ok (.imul, 1) := by decide +kernel
theorem d_Mo_dump_42 : decode b_Mo_dump 42 = .ok (.bipush 56, 2) := by decide +kernel
theorem d_Mo_dump_44 : decode b_Mo_dump 44 = .ok (.aload_n 0, 1) := by decide +kernel
theorem d_Mo_dump_45 : decode b_Mo_dump 45 = .ok (.getfield 26, 3) := by decide +kernel
theorem d_Mo_dump_48 : decode b_Mo_dump 48 = .ok (.iconst 0, 1) := by decide +kernel
theorem d_Mo_dump_49 : decode b_Mo_dump 49 = .ok (.iaload, 1) := by decide +kernel
theorem d_Mo_dump_50 : decode b_Mo_dump 50 = .ok (.imul, 1) := by decide +kernel
theorem d_Mo_dump_51 : decode b_Mo_dump 51 = .ok (.iconst 0, 1) := by decide +kernel
theorem d_Mo_dump_52 : decode b_Mo_dump 52 = .ok (.iconst 4, 1) := by decide +kernel
theorem d_Mo_dump_53 : decode b_Mo_dump 53 = .ok (.invokevirtual 75, 3) := by decide +kernel
theorem d_Mo_dump_56 : decode b_Mo_dump 56 = .ok (.iload_n 1, 1) := by decide +kernel
theorem d_Mo_dump_57 : decode b_Mo_dump 57 = .ok (.bipush 56, 2) := by decide +kernel
theorem d_Mo_dump_59 : decode b_Mo_dump 59 = .ok (.aload_n 0, 1) := by decide +kernel
theorem d_Mo_dump_60 : decode b_Mo_dump 60 = .ok (.getfield 26, 3) := by decide +kernel
theorem d_Mo_dump_63 : decode b_Mo_dump 63 = .ok (.iconst 0, 1) := by decide +kernel
theorem d_Mo_dump_64 : decode b_Mo_dump 64 = .ok (.iaload, 1) := by decide +kernel
theorem d_Mo_dump_65 : decode b_Mo_dump 65 = .ok (.imul, 1) := by decide +kernel
theorem d_Mo_dump_66 : decode b_Mo_dump 66 = .ok (.iadd, 1) := by decide +kernel
theorem d_Mo_dump_67 : decode b_Mo_dump 67 = .ok (.istore_n 1, 1) := by decide +kernel
theorem d_Mo_dump_68 : decode b_Mo_dump 68 = .ok (.aload_n 0, 1) := by decide +kernel
theorem d_Mo_dump_69 : decode b_Mo_dump 69 = .ok (.iconst (-1), 1) := by decide +kernel
theorem d_Mo_dump_70 : decode b_Mo_dump 70 = .ok (.invokevirtual 79, 3) := by decide +kernel
theorem d_Mo_dump_73 : decode b_Mo_dump 73 = .ok (.istore_n 2, 1) := by decide +kernel
theorem d_Mo_dump_74 : decode b_Mo_dump 74 = .ok (.iload_n 2, 1) := by decide +kernel
theorem d_Mo_dump_75 : decode b_Mo_dump 75 = .ok (.iconst (-1), 1) := by decide +kernel
theorem d_Mo_dump_76 : decode b_Mo_dump 76 = .ok (.if_icmp .eq 56, 3) := by decide +kernel
theorem d_Mo_dump_79 : decode b_Mo_dump 79 = .ok (.aload_n 0, 1) := by decide +kernel
theorem d_Mo_dump_80 : decode b_Mo_dump 80 = .ok (.iconst 1, 1) := by decide +kernel
theorem d_Mo_dump_81 : decode b_Mo_dump 81 = .ok (.iload_n 1, 1) := by decide +kernel
theorem d_Mo_dump_82 : decode b_Mo_dump 82 = .ok (.aload_n 0, 1) := by decide +kernel
theorem d_Mo_dump_83 : decode b_Mo_dump 83 = .ok (.getfield 7, 3) := by decide +kernel
theorem d_Mo_dump_86 : decode b_Mo_dump 86 = .ok (.iload_n 2, 1) := by decide +kernel
theorem d_Mo_dump_87 : decode b_Mo_dump 87 = .ok (.iaload, 1) := by decide +kernel
theorem d_Mo_dump_88 : decode b_Mo_dump 88 = .ok (.aload_n 0, 1) := by decide +kernel
theorem d_Mo_dump_89 : decode b_Mo_dump 89 = .ok (.iload_n 2, 1) := by decide +kernel
theorem d_Mo_dump_90 : decode b_Mo_dump 90 = .ok (.invokevirtual 83, 3) := by decide +kernel
theorem d_Mo_dump_93 : decode b_Mo_dump 93 = .ok (.aload_n 0, 1) := by decide +kernel
theorem d_Mo_dump_94 : decode b_Mo_dump 94 = .ok (.getfield 13, 3) := by decide +kernel
theorem d_Mo_dump_97 : decode b_Mo_dump 97 = .ok (.iload_n 2, 1) := by decide +kernel
theorem d_Mo_dump_98 : decode b_Mo_dump 98 = .ok (.iaload, 1) := by decide +kernel
theorem d_Mo_dump_99 : decode b_Mo_dump 99 = .ok (.aload_n 0, 1) := by decide +kernel
theorem d_Mo_dump_100 : decode b_Mo_dump 100 = .ok (.getfield 16, 3) := by decide +kernel
theorem d_Mo_dump_103 : decode b_Mo_dump 103 = .ok (.iload_n 2, 1) := by decide +kernel
theorem d_Mo_dump_104 : decode b_Mo_dump 104 = .ok (.iaload, 1) := by decide +kernel
theorem d_Mo_dump_105 : decode b_Mo_dump 105 = .ok (.bipush 64, 2) := by decide +kernel
theorem d_Mo_dump_107 : decode b_Mo_dump 107 = .ok (.invokevirtual 75, 3) := by decide +kernel
theorem d_Mo_dump_110 : decode b_Mo_dump 110 = .ok (.iload_n 1, 1) := by decide +kernel
theorem d_Mo_dump_111 : decode b_Mo_dump 111 = .ok (.aload_n 0, 1) := by decide +kernel
theorem d_Mo_dump_112 : decode b_Mo_dump 112 = .ok (.iload_n 2, 1) := by decide +kernel
theorem d_Mo_dump_113 : decode b_Mo_dump 113 = .ok (.invokevirtual 83, 3) := by decide +kernel
theorem d_Mo_dump_116 : decode b_Mo_dump 116 = .ok (.iadd, 1) := by decide +kernel
theorem d_Mo_dump_117 : decode b_Mo_dump 117 = .ok (.istore_n 1, 1) := by decide +kernel
theorem d_Mo_dump_118 : decode b_Mo_dump 118 = .ok (.aload_n 0, 1) := by decide +kernel
theorem d_Mo_dump_119 : decode b_Mo_dump 119 = .ok (.aload_n 0, 1) := by decide +kernel
theorem d_Mo_dump_120 : decode b_Mo_dump 120 = .ok (.getfield 7, 3) := by decide +kernel
theorem d_Mo_dump_123 : decode b_Mo_dump 123 = .ok (.iload_n 2, 1) := by decide +kernel
theorem d_Mo_dump_124 : decode b_Mo_dump 124 = .ok (.iaload, 1) := by decide +kernel
theorem d_Mo_dump_125 : decode b_Mo_dump 125 = .ok (.invokevirtual 79, 3) := by decide +kernel
theorem d_Mo_dump_128 : decode b_Mo_dump 128 = .ok (.istore_n 2, 1) := by decide +kernel
theorem d_Mo_dump_129 : decode b_Mo_dump 129 = .ok (.goto (-55), 3) := by decide +kernel
theorem d_Mo_dump_132 : decode b_Mo_dump 132 = .ok (.iconst 0, 1) := by decide +kernel
theorem d_Mo_dump_133 : decode b_Mo_dump 133 = .ok (.istore_n 2, 1) := by decide +kernel
theorem d_Mo_dump_134 : decode b_Mo_dump 134 = .ok (.iload_n 2, 1) := by decide +kernel
theorem d_Mo_dump_135 : decode b_Mo_dump 135 = .ok (.aload_n 0, 1) := by decide +kernel
theorem d_Mo_dump_136 : decode b_Mo_dump 136 = .ok (.getfield 26, 3) := by decide +kernel
theorem d_Mo_dump_139 : decode b_Mo_dump 139 = .ok (.iconst 0, 1) := by decide +kernel
theorem d_Mo_dump_140 : decode b_Mo_dump 140 = .ok (.iaload, 1) := by decide +kernel
theorem d_Mo_dump_141 : decode b_Mo_dump 141 = .ok (.if_icmp .ge 93, 3) := by decide +kernel
theorem d_Mo_dump_144 : decode b_Mo_dump 144 = .ok (.aload_n 0, 1) := by decide +kernel
theorem d_Mo_dump_145 : decode b_Mo_dump 145 = .ok (.iconst 5, 1) := by decide +kernel
theorem d_Mo_dump_146 : decode b_Mo_dump 146 = .ok (.invokevirtual 69, 3) := by decide +kernel
theorem d_Mo_dump_149 : decode b_Mo_dump 149 = .ok (.aload_n 0, 1) := by decide +kernel
theorem d_Mo_dump_150 : decode b_Mo_dump 150 = .ok (.bipush 36, 2) := by decide +kernel
theorem d_Mo_dump_152 : decode b_Mo_dump 152 = .ok (.invokevirtual 69, 3) := by decide +kernel
theorem d_Mo_dump_155 : decode b_Mo_dump 155 = .ok (.aload_n 0, 1) := by decide +kernel
theorem d_Mo_dump_156 : decode b_Mo_dump 156 = .ok (.iconst 1, 1) := by decide +kernel
theorem d_Mo_dump_157 : decode b_Mo_dump 157 = .ok (.invokevirtual 69, 3) := by decide +kernel
theorem d_Mo_dump_160 : decode b_Mo_dump 160 = .ok (.aload_n 0, 1) := by decide +kernel
theorem d_Mo_dump_161 : decode b_Mo_dump 161 = .ok (.bipush 67, 2) := by decide +kernel
theorem d_Mo_dump_163 : decode b_Mo_dump 163 = .ok (.invokevirtual 62, 3) := by decide +kernel
theorem d_Mo_dump_166 : decode b_Mo_dump 166 = .ok (.aload_n 0, 1) := by decide +kernel
theorem d_Mo_dump_167 : decode b_Mo_dump 167 = .ok (.bipush 79, 2) := by decide +kernel
theorem d_Mo_dump_169 : decode b_Mo_dump 169 = .ok (.invokevirtual 62, 3) := by decide +kernel
theorem d_Mo_dump_172 : decode b_Mo_dump 172 = .ok (.aload_n 0, 1) := by decide +kernel
theorem d_Mo_dump_173 : decode b_Mo_dump 173 = .ok (.bipush 82, 2) := by decide +kernel
theorem d_Mo_dump_175 : decode b_Mo_dump 175 = .ok (.invokevirtual 62, 3) := by decide +kernel
theorem d_Mo_dump_178 : decode b_Mo_dump 178 = .ok (.aload_n 0, 1) := by decide +kernel
theorem d_Mo_dump_179 : decode b_Mo_dump 179 = .ok (.bipush 69, 2) := by decide +kernel
theorem d_Mo_dump_181 : decode b_Mo_dump 181 = .ok (.invokevirtual 62, 3) := by decide +kernel
theorem d_Mo_dump_184 : decode b_Mo_dump 184 = .ok (.aload_n 0, 1) := by decide +kernel
theorem d_Mo_dump_185 : decode b_Mo_dump 185 = .ok (.iconst 0, 1) := by decide +kernel
theorem d_Mo_dump_186 : decode b_Mo_dump 186 = .ok (.invokevirtual 69, 3) := by decide +kernel
theorem d_Mo_dump_189 : decode b_Mo_dump 189 = .ok (.aload_n 0, 1) := by decide +kernel
theorem d_Mo_dump_190 : decode b_Mo_dump 190 = .ok (.aload_n 0, 1) := by decide +kernel
theorem d_Mo_dump_191 : decode b_Mo_dump 191 = .ok (.getfield 29, 3) := by decide +kernel
theorem d_Mo_dump_194 : decode b_Mo_dump 194 = .ok (.iload_n 2, 1) := by decide +kernel
theorem d_Mo_dump_195 : decode b_Mo_dump 195 = .ok (.iaload, 1) := by decide +kernel
theorem d_Mo_dump_196 : decode b_Mo_dump 196 = .ok (.invokevirtual 69, 3) := by decide +kernel
theorem d_Mo_dump_199 : decode b_Mo_dump 199 = .ok (.iconst 0, 1) := by decide +kernel
theorem d_Mo_dump_200 : decode b_Mo_dump 200 = .ok (.istore_n 3, 1) := by decide +kernel
theorem d_Mo_dump_201 : decode b_Mo_dump 201 = .ok (.iload_n 3, 1) := by decide +kernel
theorem d_Mo_dump_202 : decode b_Mo_dump 202 = .ok (.bipush 8, 2) := by decide +kernel
theorem d_Mo_dump_204 : decode b_Mo_dump 204 = .ok (.if_icmp .ge 24, 3) := by decide +kernel
theorem d_Mo_dump_207 : decode b_Mo_dump 207 = .ok (.aload_n 0, 1) := by decide +kernel
theorem d_Mo_dump_208 : decode b_Mo_dump 208 = .ok (.aload_n 0, 1) := by decide +kernel
theorem d_Mo_dump_209 : decode b_Mo_dump 209 = .ok (.getfield 32, 3) := by decide +kernel
theorem d_Mo_dump_212 : decode b_Mo_dump 212 = .ok (.bipush 8, 2) := by decide +kernel
theorem d_Mo_dump_214 : decode b_Mo_dump 214 = .ok (.iload_n 2, 1) := by decide +kernel
theorem d_Mo_dump_215 : decode b_Mo_dump 215 = .ok (.imul, 1) := by decide +kernel
theorem d_Mo_dump_216 : decode b_Mo_dump 216 = .ok (.iload_n 3, 1) := by decide +kernel
theorem d_Mo_dump_217 : decode b_Mo_dump 217 = .ok (.iadd, 1) := by decide +kernel
theorem d_Mo_dump_218 : decode b_Mo_dump 218 = .ok (.iaload, 1) := by decide +kernel
theorem d_Mo_dump_219 : decode b_Mo_dump 219 = .ok (.invokevirtual 69, 3) := by decide +kernel
theorem d_Mo_dump_222 : decode b_Mo_dump 222 = .ok (.iinc 3 1, 3) := by decide +kernel
theorem d_Mo_dump_225 : decode b_Mo_dump 225 = .ok (.goto (-24), 3) := by decide +kernel
theorem d_Mo_dump_228 : decode b_Mo_dump 228 = .ok (.iinc 2 1, 3) := by decide +kernel
theorem d_Mo_dump_231 : decode b_Mo_dump 231 = .ok (.goto (-97), 3) := by decide +kernel
theorem d_Mo_dump_234 : decode b_Mo_dump 234 = .ok (.aload_n 0, 1) := by decide +kernel
theorem d_Mo_dump_235 : decode b_Mo_dump 235 = .ok (.iconst (-1), 1) := by decide +kernel
theorem d_Mo_dump_236 : decode b_Mo_dump 236 = .ok (.invokevirtual 79, 3) := by decide +kernel
theorem d_Mo_dump_239 : decode b_Mo_dump 239 = .ok (.istore_n 2, 1) := by decide +kernel
theorem d_Mo_dump_240 : decode b_Mo_dump 240 = .ok (.iload_n 2, 1) := by decide +kernel
theorem d_Mo_dump_241 : decode b_Mo_dump 241 = .ok (.iconst (-1), 1) := by decide +kernel
theorem d_Mo_dump_242 : decode b_Mo_dump 242 = .ok (.if_icmp .eq 55, 3) := by decide +kernel
theorem d_Mo_dump_245 : decode b_Mo_dump 245 = .ok (.aload_n 0, 1) := by decide +kernel
theorem d_Mo_dump_246 : decode b_Mo_dump 246 = .ok (.iload_n 2, 1) := by decide +kernel
theorem d_Mo_dump_247 : decode b_Mo_dump 247 = .ok (.invokevirtual 83, 3) := by decide +kernel
theorem d_Mo_dump_250 : decode b_Mo_dump 250 = .ok (.istore_n 3, 1) := by decide +kernel
theorem d_Mo_dump_251 : decode b_Mo_dump 251 = .ok (.iconst 0, 1) := by decide +kernel
theorem d_Mo_dump_252 : decode b_Mo_dump 252 = .ok (.istore 4, 2) := by decide +kernel
theorem d_Mo_dump_254 : decode b_Mo_dump 254 = .ok (.iload 4, 2) := by decide +kernel
theorem d_Mo_dump_256 : decode b_Mo_dump 256 = .ok (.iload_n 3, 1) := by decide +kernel
theorem d_Mo_dump_257 : decode b_Mo_dump 257 = .ok (.if_icmp .ge 26, 3) := by decide +kernel
theorem d_Mo_dump_260 : decode b_Mo_dump 260 = .ok (.aload_n 0, 1) := by decide +kernel
theorem d_Mo_dump_261 : decode b_Mo_dump 261 = .ok (.aload_n 0, 1) := by decide +kernel
theorem d_Mo_dump_262 : decode b_Mo_dump 262 = .ok (.getfield 19, 3) := by decide +kernel
theorem d_Mo_dump_265 : decode b_Mo_dump 265 = .ok (.sipush 1024, 3) := by decide +kernel
theorem d_Mo_dump_268 : decode b_Mo_dump 268 = .ok (.iload_n 2, 1) := by decide +kernel
theorem d_Mo_dump_269 : decode b_Mo_dump 269 = .ok (.imul, 1) := by decide +kernel
theorem d_Mo_dump_270 : decode b_Mo_dump 270 = .ok (.iload 4, 2) := by decide +kernel
theorem d_Mo_dump_272 : decode b_Mo_dump 272 = .ok (.iadd, 1) := by decide +kernel
theorem d_Mo_dump_273 : decode b_Mo_dump 273 = .ok (.baload, 1) := by decide +kernel
theorem d_Mo_dump_274 : decode b_Mo_dump 274 = .ok (.invokevirtual 62, 3) := by decide +kernel
theorem d_Mo_dump_277 : decode b_Mo_dump 277 = .ok (.iinc 4 1, 3) := by decide +kernel
theorem d_Mo_dump_280 : decode b_Mo_dump 280 = .ok (.goto (-26), 3) := by decide +kernel
theorem d_Mo_dump_283 : decode b_Mo_dump 283 = .ok (.aload_n 0, 1) := by decide +kernel
theorem d_Mo_dump_284 : decode b_Mo_dump 284 = .ok (.aload_n 0, 1) := by decide +kernel
theorem d_Mo_dump_285 : decode b_Mo_dump 285 = .ok (.getfield 7, 3) := by decide +kernel
theorem d_Mo_dump_288 : decode b_Mo_dump 288 = .ok (.iload_n 2, 1) := by decide +kernel
theorem d_Mo_dump_289 : decode b_Mo_dump 289 = .ok (.iaload, 1) := by decide +kernel
theorem d_Mo_dump_290 : decode b_Mo_dump 290 = .ok (.invokevirtual 79, 3) := by decide +kernel
theorem d_Mo_dump_293 : decode b_Mo_dump 293 = .ok (.istore_n 2, 1) := by decide +kernel
theorem d_Mo_dump_294 : decode b_Mo_dump 294 = .ok (.goto (-54), 3) := by decide +kernel
theorem d_Mo_dump_297 : decode b_Mo_dump 297 = .ok (.aload_n 0, 1) := by decide +kernel
theorem d_Mo_dump_298 : decode b_Mo_dump 298 = .ok (.getfield 38, 3) := by decide +kernel
theorem d_Mo_dump_301 : decode b_Mo_dump 301 = .ok (.ireturn, 1) := by decide +kernel
