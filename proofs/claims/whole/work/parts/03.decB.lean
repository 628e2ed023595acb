theorem d_Fw_init_0 : decode b_Fw_init 0 = .ok (.aload_n 0, 1) := by decide +kernel
theorem d_Fw_init_1 : decode b_Fw_init 1 = .ok (.invokespecial 3, 3) := by decide +kernel
theorem d_Fw_init_4 : decode b_Fw_init 4 = .ok (.aload_n 0, 1) := by decide +kernel
theorem d_Fw_init_5 : decode b_Fw_init 5 = .ok (.aload_n 1, 1) := by decide +kernel
theorem d_Fw_init_6 : decode b_Fw_init 6 = .ok (.putfield 9, 3) := by decide +kernel
theorem d_Fw_init_9 : decode b_Fw_init 9 = .ok (.aload_n 0, 1) := by decide +kernel
theorem d_Fw_init_10 : decode b_Fw_init 10 = .ok (.aload_n 2, 1) := by decide +kernel
theorem d_Fw_init_11 : decode b_Fw_init 11 = .ok (.putfield 15, 3) := by decide +kernel
theorem d_Fw_init_14 : decode b_Fw_init 14 = .ok (.aload_n 0, 1) := by decide +kernel
theorem d_Fw_init_15 : decode b_Fw_init 15 = .ok (.aload_n 3, 1) := by decide +kernel
theorem d_Fw_init_16 : decode b_Fw_init 16 = .ok (.putfield 19, 3) := by decide +kernel
theorem d_Fw_init_19 : decode b_Fw_init 19 = .ok (.return_, 1) := by decide +kernel
theorem d_Fw_writeFile_0 : decode b_Fw_writeFile 0 = .ok (.aload_n 0, 1) := by decide +kernel
theorem d_Fw_writeFile_1 : decode b_Fw_writeFile 1 = .ok (.getfield 9, 3) := by decide +kernel
theorem d_Fw_writeFile_4 : decode b_Fw_writeFile 4 = .ok (.iconst 0, 1) := by decide +kernel
theorem d_Fw_writeFile_5 : decode b_Fw_writeFile 5 = .ok (.invokevirtual 23, 3) := by decide +kernel
theorem d_Fw_writeFile_8 : decode b_Fw_writeFile 8 = .ok (.pop, 1) := by decide +kernel
theorem d_Fw_writeFile_9 : decode b_Fw_writeFile 9 = .ok (.aload_n 0, 1) := by decide +kernel
theorem d_Fw_writeFile_10 : decode b_Fw_writeFile 10 = .ok (.invokevirtual 29, 3) := by decide +kernel
theorem d_Fw_writeFile_13 : decode b_Fw_writeFile 13 = .ok (.aload_n 0, 1) := by decide +kernel
theorem d_Fw_writeFile_14 : decode b_Fw_writeFile 14 = .ok (.invokevirtual 32, 3) := by decide +kernel
theorem d_Fw_writeFile_17 : decode b_Fw_writeFile 17 = .ok (.iconst 0, 1) := by decide +kernel
theorem d_Fw_writeFile_18 : decode b_Fw_writeFile 18 = .ok (.istore_n 1, 1) := by decide +kernel
theorem d_Fw_writeFile_19 : decode b_Fw_writeFile 19 = .ok (.iload_n 1, 1) := by decide +kernel
theorem d_Fw_writeFile_20 : decode b_Fw_writeFile 20 = .ok (.aload_n 0, 1) := by decide +kernel
theorem d_Fw_writeFile_21 : decode b_Fw_writeFile 21 = .ok (.getfield 19, 3) := by decide +kernel
theorem d_Fw_writeFile_24 : decode b_Fw_writeFile 24 = .ok (.invokevirtual 35, 3) := by decide +kernel
theorem d_Fw_writeFile_27 : decode b_Fw_writeFile 27 = .ok (.if_icmp .ge 14, 3) := by decide +kernel
theorem d_Fw_writeFile_30 : decode b_Fw_writeFile 30 = .ok (.aload_n 0, 1) := by decide +kernel
theorem d_Fw_writeFile_31 : decode b_Fw_writeFile 31 = .ok (.iload_n 1, 1) := by decide +kernel
theorem d_Fw_writeFile_32 : decode b_Fw_writeFile 32 = .ok (.invokevirtual 41, 3) := by decide +kernel
theorem d_Fw_writeFile_35 : decode b_Fw_writeFile 35 = .ok (.iinc 1 1, 3) := by decide +kernel
theorem d_Fw_writeFile_38 : decode b_Fw_writeFile 38 = .ok (.goto (-19), 3) := by decide +kernel
theorem d_Fw_writeFile_41 : decode b_Fw_writeFile 41 = .ok (.iconst 0, 1) := by decide +kernel
theorem d_Fw_writeFile_42 : decode b_Fw_writeFile 42 = .ok (.istore_n 1, 1) := by decide +kernel
theorem d_Fw_writeFile_43 : decode b_Fw_writeFile 43 = .ok (.iload_n 1, 1) := by decide +kernel
theorem d_Fw_writeFile_44 : decode b_Fw_writeFile 44 = .ok (.aload_n 0, 1) := by decide +kernel
theorem d_Fw_writeFile_45 : decode b_Fw_writeFile 45 = .ok (.getfield 15, 3) := by decide +kernel
theorem d_Fw_writeFile_48 : decode b_Fw_writeFile 48 = .ok (.invokevirtual 45, 3) := by decide +kernel
theorem d_Fw_writeFile_51 : decode b_Fw_writeFile 51 = .ok (.if_icmp .ge 37, 3) := by decide +kernel
theorem d_Fw_writeFile_54 : decode b_Fw_writeFile 54 = .ok (.aload_n 0, 1) := by decide +kernel
theorem d_Fw_writeFile_55 : decode b_Fw_writeFile 55 = .ok (.getfield 15, 3) := by decide +kernel
theorem d_Fw_writeFile_58 : decode b_Fw_writeFile 58 = .ok (.iload_n 1, 1) := by decide +kernel
theorem d_Fw_writeFile_59 : decode b_Fw_writeFile 59 = .ok (.invokevirtual 48, 3) := by decide +kernel
theorem d_Fw_writeFile_62 : decode b_Fw_writeFile 62 = .ok (.astore_n 2, 1) := by decide +kernel
theorem d_Fw_writeFile_63 : decode b_Fw_writeFile 63 = .ok (.aload_n 2, 1) := by decide +kernel
theorem d_Fw_writeFile_64 : decode b_Fw_writeFile 64 = .ok (.ifnull 18, 3) := by decide +kernel
theorem d_Fw_writeFile_67 : decode b_Fw_writeFile 67 = .ok (.aload_n 0, 1) := by decide +kernel
theorem d_Fw_writeFile_68 : decode b_Fw_writeFile 68 = .ok (.getfield 9, 3) := by decide +kernel
theorem d_Fw_writeFile_71 : decode b_Fw_writeFile 71 = .ok (.aload_n 2, 1) := by decide +kernel
theorem d_Fw_writeFile_72 : decode b_Fw_writeFile 72 = .ok (.getfield 52, 3) := by decide +kernel
theorem d_Fw_writeFile_75 : decode b_Fw_writeFile 75 = .ok (.aload_n 2, 1) := by decide +kernel
theorem d_Fw_writeFile_76 : decode b_Fw_writeFile 76 = .ok (.invokevirtual 58, 3) := by decide +kernel
theorem d_Fw_writeFile_79 : decode b_Fw_writeFile 79 = .ok (.invokevirtual 61, 3) := by decide +kernel
theorem d_Fw_writeFile_82 : decode b_Fw_writeFile 82 = .ok (.iinc 1 1, 3) := by decide +kernel
theorem d_Fw_writeFile_85 : decode b_Fw_writeFile 85 = .ok (.goto (-42), 3) := by decide +kernel
theorem d_Fw_writeFile_88 : decode b_Fw_writeFile 88 = .ok (.return_, 1) := by decide +kernel
theorem d_Fw_entries_0 : decode b_Fw_entries 0 = .ok (.aload_n 0, 1) := by decide +kernel
theorem d_Fw_entries_1 : decode b_Fw_entries 1 = .ok (.getfield 15, 3) := by decide +kernel
theorem d_Fw_entries_4 : decode b_Fw_entries 4 = .ok (.invokevirtual 45, 3) := by decide +kernel
theorem d_Fw_entries_7 : decode b_Fw_entries 7 = .ok (.iconst 1, 1) := by decide +kernel
theorem d_Fw_entries_8 : decode b_Fw_entries 8 = .ok (.iadd, 1) := by decide +kernel
theorem d_Fw_entries_9 : decode b_Fw_entries 9 = .ok (.ireturn, 1) := by decide +kernel
theorem d_Fw_writeHeader_0 : decode b_Fw_writeHeader 0 = .ok (.iconst 0, 1) := by decide +kernel
theorem d_Fw_writeHeader_1 : decode b_Fw_writeHeader 1 = .ok (.istore_n 1, 1) := by decide +kernel
theorem d_Fw_writeHeader_2 : decode b_Fw_writeHeader 2 = .ok (.iload_n 1, 1) := by decide +kernel
theorem d_Fw_writeHeader_3 : decode b_Fw_writeHeader 3 = .ok (.getstatic 65, 3) := by decide +kernel
theorem d_Fw_writeHeader_6 : decode b_Fw_writeHeader 6 = .ok (.arraylength, 1) := by decide +kernel
theorem d_Fw_writeHeader_7 : decode b_Fw_writeHeader 7 = .ok (.if_icmp .ge 49, 3) := by decide +kernel
theorem d_Fw_writeHeader_10 : decode b_Fw_writeHeader 10 = .ok (.iload_n 1, 1) := by decide +kernel
theorem d_Fw_writeHeader_11 : decode b_Fw_writeHeader 11 = .ok (.getstatic 69, 3) := by decide +kernel
theorem d_Fw_writeHeader_14 : decode b_Fw_writeHeader 14 = .ok (.arraylength, 1) := by decide +kernel
theorem d_Fw_writeHeader_15 : decode b_Fw_writeHeader 15 = .ok (.if_icmp .ge 41, 3) := by decide +kernel
theorem d_Fw_writeHeader_18 : decode b_Fw_writeHeader 18 = .ok (.iload_n 1, 1) := by decide +kernel
theorem d_Fw_writeHeader_19 : decode b_Fw_writeHeader 19 = .ok (.bipush 25, 2) := by decide +kernel
theorem d_Fw_writeHeader_21 : decode b_Fw_writeHeader 21 = .ok (.if_icmp .ne 10, 3) := by decide +kernel
theorem d_Fw_writeHeader_24 : decode b_Fw_writeHeader 24 = .ok (.aload_n 0, 1) := by decide +kernel
theorem d_Fw_writeHeader_25 : decode b_Fw_writeHeader 25 = .ok (.invokevirtual 72, 3) := by decide +kernel
theorem d_Fw_writeHeader_28 : decode b_Fw_writeHeader 28 = .ok (.goto 8, 3) := by decide +kernel
theorem d_Fw_writeHeader_31 : decode b_Fw_writeHeader 31 = .ok (.getstatic 65, 3) := by decide +kernel
theorem d_Fw_writeHeader_34 : decode b_Fw_writeHeader 34 = .ok (.iload_n 1, 1) := by decide +kernel
theorem d_Fw_writeHeader_35 : decode b_Fw_writeHeader 35 = .ok (.iaload, 1) := by decide +kernel
theorem d_Fw_writeHeader_36 : decode b_Fw_writeHeader 36 = .ok (.istore_n 2, 1) := by decide +kernel
theorem d_Fw_writeHeader_37 : decode b_Fw_writeHeader 37 = .ok (.aload_n 0, 1) := by decide +kernel
theorem d_Fw_writeHeader_38 : decode b_Fw_writeHeader 38 = .ok (.getfield 9, 3) := by decide +kernel
theorem d_Fw_writeHeader_41 : decode b_Fw_writeHeader 41 = .ok (.iload_n 2, 1) := by decide +kernel
theorem d_Fw_writeHeader_42 : decode b_Fw_writeHeader 42 = .ok (.getstatic 69, 3) := by decide +kernel
theorem d_Fw_writeHeader_45 : decode b_Fw_writeHeader 45 = .ok (.iload_n 1, 1) := by decide +kernel
theorem d_Fw_writeHeader_46 : decode b_Fw_writeHeader 46 = .ok (.iaload, 1) := by decide +kernel
theorem d_Fw_writeHeader_47 : decode b_Fw_writeHeader 47 = .ok (.invokevirtual 75, 3) := by decide +kernel
theorem d_Fw_writeHeader_50 : decode b_Fw_writeHeader 50 = .ok (.iinc 1 1, 3) := by decide +kernel
theorem d_Fw_writeHeader_53 : decode b_Fw_writeHeader 53 = .ok (.goto (-51), 3) := by decide +kernel
theorem d_Fw_writeHeader_56 : decode b_Fw_writeHeader 56 = .ok (.return_, 1) := by decide +kernel
theorem d_Fw_writeEntries_0 : decode b_Fw_writeEntries 0 = .ok (.bipush 52, 2) := by decide +kernel
theorem d_Fw_writeEntries_2 : decode b_Fw_writeEntries 2 = .ok (.aload_n 0, 1) := by decide +kernel
theorem d_Fw_writeEntries_3 : decode b_Fw_writeEntries 3 = .ok (.invokevirtual 72, 3) := by decide +kernel
theorem d_Fw_writeEntries_6 : decode b_Fw_writeEntries 6 = .ok (.bipush 32, 2) := by decide +kernel
theorem d_Fw_writeEntries_8 : decode b_Fw_writeEntries 8 = .ok (.imul, 1) := by decide +kernel
theorem d_Fw_writeEntries_9 : decode b_Fw_writeEntries 9 = .ok (.iadd, 1) := by decide +kernel
theorem d_Fw_writeEntries_10 : decode b_Fw_writeEntries 10 = .ok (.istore_n 1, 1) := by decide +kernel
theorem d_Fw_writeEntries_11 : decode b_Fw_writeEntries 11 = .ok (.aload_n 0, 1) := by decide +kernel
theorem d_Fw_writeEntries_12 : decode b_Fw_writeEntries 12 = .ok (.getfield 19, 3) := by decide +kernel
theorem d_Fw_writeEntries_15 : decode b_Fw_writeEntries 15 = .ok (.invokevirtual 35, 3) := by decide +kernel
theorem d_Fw_writeEntries_18 : decode b_Fw_writeEntries 18 = .ok (.bipush 56, 2) := by decide +kernel
theorem d_Fw_writeEntries_20 : decode b_Fw_writeEntries 20 = .ok (.imul, 1) := by decide +kernel
theorem d_Fw_writeEntries_21 : decode b_Fw_writeEntries 21 = .ok (.istore_n 2, 1) := by decide +kernel
theorem d_Fw_writeEntries_22 : decode b_Fw_writeEntries 22 = .ok (.aload_n 0, 1) := by decide +kernel
theorem d_Fw_writeEntries_23 : decode b_Fw_writeEntries 23 = .ok (.iload_n 1, 1) := by decide +kernel
theorem d_Fw_writeEntries_24 : decode b_Fw_writeEntries 24 = .ok (.iload_n 2, 1) := by decide +kernel
theorem d_Fw_writeEntries_25 : decode b_Fw_writeEntries 25 = .ok (.invokevirtual 79, 3) := by decide +kernel
theorem d_Fw_writeEntries_28 : decode b_Fw_writeEntries 28 = .ok (.iload_n 1, 1) := by decide +kernel
theorem d_Fw_writeEntries_29 : decode b_Fw_writeEntries 29 = .ok (.iload_n 2, 1) := by decide +kernel
theorem d_Fw_writeEntries_30 : decode b_Fw_writeEntries 30 = .ok (.iadd, 1) := by decide +kernel
theorem d_Fw_writeEntries_31 : decode b_Fw_writeEntries 31 = .ok (.istore_n 1, 1) := by decide +kernel
theorem d_Fw_writeEntries_32 : decode b_Fw_writeEntries 32 = .ok (.iconst 0, 1) := by decide +kernel
theorem d_Fw_writeEntries_33 : decode b_Fw_writeEntries 33 = .ok (.istore_n 3, 1) := by decide +kernel
theorem d_Fw_writeEntries_34 : decode b_Fw_writeEntries 34 = .ok (.iload_n 3, 1) := by decide +kernel
theorem d_Fw_writeEntries_35 : decode b_Fw_writeEntries 35 = .ok (.aload_n 0, 1) := by decide +kernel
theorem d_Fw_writeEntries_36 : decode b_Fw_writeEntries 36 = .ok (.getfield 15, 3) := by decide +kernel
theorem d_Fw_writeEntries_39 : decode b_Fw_writeEntries 39 = .ok (.invokevirtual 45, 3) := by decide +kernel
theorem d_Fw_writeEntries_42 : decode b_Fw_writeEntries 42 = .ok (.if_icmp .ge 45, 3) := by decide +kernel
theorem d_Fw_writeEntries_45 : decode b_Fw_writeEntries 45 = .ok (.aload_n 0, 1) := by decide +kernel
theorem d_Fw_writeEntries_46 : decode b_Fw_writeEntries 46 = .ok (.getfield 15, 3) := by decide +kernel
theorem d_Fw_writeEntries_49 : decode b_Fw_writeEntries 49 = .ok (.iload_n 3, 1) := by decide +kernel
theorem d_Fw_writeEntries_50 : decode b_Fw_writeEntries 50 = .ok (.invokevirtual 48, 3) := by decide +kernel
theorem d_Fw_writeEntries_53 : decode b_Fw_writeEntries 53 = .ok (.astore 4, 2) := by decide +kernel
theorem d_Fw_writeEntries_55 : decode b_Fw_writeEntries 55 = .ok (.aload 4, 2) := by decide +kernel
theorem d_Fw_writeEntries_57 : decode b_Fw_writeEntries 57 = .ok (.ifnull 24, 3) := by decide +kernel
theorem d_Fw_writeEntries_60 : decode b_Fw_writeEntries 60 = .ok (.aload 4, 2) := by decide +kernel
theorem d_Fw_writeEntries_62 : decode b_Fw_writeEntries 62 = .ok (.invokevirtual 58, 3) := by decide +kernel
theorem d_Fw_writeEntries_65 : decode b_Fw_writeEntries 65 = .ok (.istore 5, 2) := by decide +kernel
theorem d_Fw_writeEntries_67 : decode b_Fw_writeEntries 67 = .ok (.aload_n 0, 1) := by decide +kernel
theorem d_Fw_writeEntries_68 : decode b_Fw_writeEntries 68 = .ok (.iload_n 1, 1) := by decide +kernel
theorem d_Fw_writeEntries_69 : decode b_Fw_writeEntries 69 = .ok (.aload 4, 2) := by decide +kernel
theorem d_Fw_writeEntries_71 : decode b_Fw_writeEntries 71 = .ok (.iload 5, 2) := by decide +kernel
theorem d_Fw_writeEntries_73 : decode b_Fw_writeEntries 73 = .ok (.invokevirtual 82, 3) := by decide +kernel
theorem d_Fw_writeEntries_76 : decode b_Fw_writeEntries 76 = .ok (.iload_n 1, 1) := by decide +kernel
theorem d_Fw_writeEntries_77 : decode b_Fw_writeEntries 77 = .ok (.iload 5, 2) := by decide +kernel
theorem d_Fw_writeEntries_79 : decode b_Fw_writeEntries 79 = .ok (.iadd, 1) := by decide +kernel
theorem d_Fw_writeEntries_80 : decode b_Fw_writeEntries 80 = .ok (.istore_n 1, 1) := by decide +kernel
theorem d_Fw_writeEntries_81 : decode b_Fw_writeEntries 81 = .ok (.iinc 3 1, 3) := by decide +kernel
theorem d_Fw_writeEntries_84 : decode b_Fw_writeEntries 84 = .ok (.goto (-50), 3) := by decide +kernel
theorem d_Fw_writeEntries_87 : decode b_Fw_writeEntries 87 = .ok (.return_, 1) := by decide +kernel
theorem d_Fw_writeNotesEntry_0 : decode b_Fw_writeNotesEntry 0 = .ok (.aload_n 0, 1) := by decide +kernel
theorem d_Fw_writeNotesEntry_1 : decode b_Fw_writeNotesEntry 1 = .ok (.iconst 4, 1) := by decide +kernel
theorem d_Fw_writeNotesEntry_2 : decode b_Fw_writeNotesEntry 2 = .ok (.invokevirtual 86, 3) := by decide +kernel
theorem d_Fw_writeNotesEntry_5 : decode b_Fw_writeNotesEntry 5 = .ok (.aload_n 0, 1) := by decide +kernel
theorem d_Fw_writeNotesEntry_6 : decode b_Fw_writeNotesEntry 6 = .ok (.iload_n 1, 1) := by decide +kernel
theorem d_Fw_writeNotesEntry_7 : decode b_Fw_writeNotesEntry 7 = .ok (.invokevirtual 86, 3) := by decide +kernel
theorem d_Fw_writeNotesEntry_10 : decode b_Fw_writeNotesEntry 10 = .ok (.aload_n 0, 1) := by decide +kernel
theorem d_Fw_writeNotesEntry_11 : decode b_Fw_writeNotesEntry 11 = .ok (.iconst 0, 1) := by decide +kernel
theorem d_Fw_writeNotesEntry_12 : decode b_Fw_writeNotesEntry 12 = .ok (.invokevirtual 86, 3) := by decide +kernel
theorem d_Fw_writeNotesEntry_15 : decode b_Fw_writeNotesEntry 15 = .ok (.aload_n 0, 1) := by decide +kernel
theorem d_Fw_writeNotesEntry_16 : decode b_Fw_writeNotesEntry 16 = .ok (.iconst 0, 1) := by decide +kernel
theorem d_Fw_writeNotesEntry_17 : decode b_Fw_writeNotesEntry 17 = .ok (.invokevirtual 86, 3) := by decide +kernel
theorem d_Fw_writeNotesEntry_20 : decode b_Fw_writeNotesEntry 20 = .ok (.aload_n 0, 1) := by decide +kernel
theorem d_Fw_writeNotesEntry_21 : decode b_Fw_writeNotesEntry 21 = .ok (.iload_n 2, 1) := by decide +kernel
theorem d_Fw_writeNotesEntry_22 : decode b_Fw_writeNotesEntry 22 = .ok (.invokevirtual 86, 3) := by decide +kernel
theorem d_Fw_writeNotesEntry_25 : decode b_Fw_writeNotesEntry 25 = .ok (.aload_n 0, 1) := by decide +kernel
theorem d_Fw_writeNotesEntry_26 : decode b_Fw_writeNotesEntry 26 = .ok (.iload_n 2, 1) := by decide +kernel
theorem d_Fw_writeNotesEntry_27 : decode b_Fw_writeNotesEntry 27 = .ok (.invokevirtual 86, 3) := by decide +kernel
theorem d_Fw_writeNotesEntry_30 : decode b_Fw_writeNotesEntry 30 = .ok (.aload_n 0, 1) := by decide +kernel
theorem d_Fw_writeNotesEntry_31 : decode b_Fw_writeNotesEntry 31 = .ok (.iconst 0, 1) := by decide +kernel
theorem d_Fw_writeNotesEntry_32 : decode b_Fw_writeNotesEntry 32 = .ok (.invokevirtual 86, 3) := by decide +kernel
theorem d_Fw_writeNotesEntry_35 : decode b_Fw_writeNotesEntry 35 = .ok (.aload_n 0, 1) := by decide +kernel
theorem d_Fw_writeNotesEntry_36 : decode b_Fw_writeNotesEntry 36 = .ok (.iconst 4, 1) := by decide +kernel
theorem d_Fw_writeNotesEntry_37 : decode b_Fw_writeNotesEntry 37 = .ok (.invokevirtual 86, 3) := by decide +kernel
theorem d_Fw_writeNotesEntry_40 : decode b_Fw_writeNotesEntry 40 = .ok (.return_, 1) := by decide +kernel
theorem d_Fw_writeRegionEntry_0 : decode b_Fw_writeRegionEntry 0 = .ok (.aload_n 0, 1) := by decide +kernel
theorem d_Fw_writeRegionEntry_1 : decode b_Fw_writeRegionEntry 1 = .ok (.iconst 1, 1) := by decide +kernel
theorem d_Fw_writeRegionEntry_2 : decode b_Fw_writeRegionEntry 2 = .ok (.invokevirtual 86, 3) := by decide +kernel
theorem d_Fw_writeRegionEntry_5 : decode b_Fw_writeRegionEntry 5 = .ok (.aload_n 0, 1) := by decide +kernel
theorem d_Fw_writeRegionEntry_6 : decode b_Fw_writeRegionEntry 6 = .ok (.iload_n 1, 1) := by decide +kernel
theorem d_Fw_writeRegionEntry_7 : decode b_Fw_writeRegionEntry 7 = .ok (.invokevirtual 86, 3) := by decide +kernel
theorem d_Fw_writeRegionEntry_10 : decode b_Fw_writeRegionEntry 10 = .ok (.aload_n 0, 1) := by decide +kernel
theorem d_Fw_writeRegionEntry_11 : decode b_Fw_writeRegionEntry 11 = .ok (.aload_n 2, 1) := by decide +kernel
theorem d_Fw_writeRegionEntry_12 : decode b_Fw_writeRegionEntry 12 = .ok (.getfield 89, 3) := by decide +kernel
theorem d_Fw_writeRegionEntry_15 : decode b_Fw_writeRegionEntry 15 = .ok (.invokevirtual 86, 3) := by decide +kernel
theorem d_Fw_writeRegionEntry_18 : decode b_Fw_writeRegionEntry 18 = .ok (.aload_n 0, 1) := by decide +kernel
theorem d_Fw_writeRegionEntry_19 : decode b_Fw_writeRegionEntry 19 = .ok (.iconst 0, 1) := by decide +kernel
theorem d_Fw_writeRegionEntry_20 : decode b_Fw_writeRegionEntry 20 = .ok (.invokevirtual 86, 3) := by decide +kernel
theorem d_Fw_writeRegionEntry_23 : decode b_Fw_writeRegionEntry 23 = .ok (.aload_n 0, 1) := by decide +kernel
theorem d_Fw_writeRegionEntry_24 : decode b_Fw_writeRegionEntry 24 = .ok (.iload_n 3, 1) := by decide +kernel
theorem d_Fw_writeRegionEntry_25 : decode b_Fw_writeRegionEntry 25 = .ok (.invokevirtual 86, 3) := by decide +kernel
theorem d_Fw_writeRegionEntry_28 : decode b_Fw_writeRegionEntry 28 = .ok (.aload_n 0, 1) := by decide +kernel
theorem d_Fw_writeRegionEntry_29 : decode b_Fw_writeRegionEntry 29 = .ok (.aload_n 2, 1) := by decide +kernel
theorem d_Fw_writeRegionEntry_30 : decode b_Fw_writeRegionEntry 30 = .ok (.getfield 93, 3) := by decide +kernel
theorem d_Fw_writeRegionEntry_33 : decode b_Fw_writeRegionEntry 33 = .ok (.invokevirtual 86, 3) := by decide +kernel
theorem d_Fw_writeRegionEntry_36 : decode b_Fw_writeRegionEntry 36 = .ok (.aload_n 0, 1) := by decide +kernel
theorem d_Fw_writeRegionEntry_37 : decode b_Fw_writeRegionEntry 37 = .ok (.aload_n 2, 1) := by decide +kernel
theorem d_Fw_writeRegionEntry_38 : decode b_Fw_writeRegionEntry 38 = .ok (.getfield 96, 3) := by decide +kernel
theorem d_Fw_writeRegionEntry_41 : decode b_Fw_writeRegionEntry 41 = .ok (.invokevirtual 86, 3) := by decide +kernel
theorem d_Fw_writeRegionEntry_44 : decode b_Fw_writeRegionEntry 44 = .ok (.aload_n 0, 1) := by decide +kernel
theorem d_Fw_writeRegionEntry_45 : decode b_Fw_writeRegionEntry 45 = .ok (.bipush 64, 2) := by decide +kernel
theorem d_Fw_writeRegionEntry_47 : decode b_Fw_writeRegionEntry 47 = .ok (.invokevirtual 86, 3) := by decide +kernel
theorem d_Fw_writeRegionEntry_50 : decode b_Fw_writeRegionEntry 50 = .ok (.return_, 1) := by decide +kernel
theorem d_Fw_writeNote_0 : decode b_Fw_writeNote 0 = .ok (.aload_n 0, 1) := by decide +kernel
theorem d_Fw_writeNote_1 : decode b_Fw_writeNote 1 = .ok (.iconst 5, 1) := by decide +kernel
theorem d_Fw_writeNote_2 : decode b_Fw_writeNote 2 = .ok (.invokevirtual 86, 3) := by decide +kernel
theorem d_Fw_writeNote_5 : decode b_Fw_writeNote 5 = .ok (.aload_n 0, 1) := by decide +kernel
theorem d_Fw_writeNote_6 : decode b_Fw_writeNote 6 = .ok (.bipush 36, 2) := by decide +kernel
theorem d_Fw_writeNote_8 : decode b_Fw_writeNote 8 = .ok (.invokevirtual 86, 3) := by decide +kernel
theorem d_Fw_writeNote_11 : decode b_Fw_writeNote 11 = .ok (.aload_n 0, 1) := by decide +kernel
theorem d_Fw_writeNote_12 : decode b_Fw_writeNote 12 = .ok (.iconst 1, 1) := by decide +kernel
theorem d_Fw_writeNote_13 : decode b_Fw_writeNote 13 = .ok (.invokevirtual 86, 3) := by decide +kernel
theorem d_Fw_writeNote_16 : decode b_Fw_writeNote 16 = .ok (.iconst 0, 1) := by decide +kernel
theorem d_Fw_writeNote_17 : decode b_Fw_writeNote 17 = .ok (.istore_n 2, 1) := by decide +kernel
theorem d_Fw_writeNote_18 : decode b_Fw_writeNote 18 = .ok (.iload_n 2, 1) := by decide +kernel
theorem d_Fw_writeNote_19 : decode b_Fw_writeNote 19 = .ok (.getstatic 99, 3) := by decide +kernel
theorem d_Fw_writeNote_22 : decode b_Fw_writeNote 22 = .ok (.arraylength, 1) := by decide +kernel
theorem d_Fw_writeNote_23 : decode b_Fw_writeNote 23 = .ok (.if_icmp .ge 22, 3) := by decide +kernel
theorem d_Fw_writeNote_26 : decode b_Fw_writeNote 26 = .ok (.aload_n 0, 1) := by decide +kernel
theorem d_Fw_writeNote_27 : decode b_Fw_writeNote 27 = .ok (.getfield 9, 3) := by decide +kernel
theorem d_Fw_writeNote_30 : decode b_Fw_writeNote 30 = .ok (.getstatic 99, 3) := by decide +kernel
theorem d_Fw_writeNote_33 : decode b_Fw_writeNote 33 = .ok (.iload_n 2, 1) := by decide +kernel
theorem d_Fw_writeNote_34 : decode b_Fw_writeNote 34 = .ok (.iaload, 1) := by decide +kernel
theorem d_Fw_writeNote_35 : decode b_Fw_writeNote 35 = .ok (.invokevirtual 102, 3) := by decide +kernel
theorem d_Fw_writeNote_38 : decode b_Fw_writeNote 38 = .ok (.pop, 1) := by decide +kernel
theorem d_Fw_writeNote_39 : decode b_Fw_writeNote 39 = .ok (.iinc 2 1, 3) := by decide +kernel
theorem d_Fw_writeNote_42 : decode b_Fw_writeNote 42 = .ok (.goto (-24), 3) := by decide +kernel
theorem d_Fw_writeNote_45 : decode b_Fw_writeNote 45 = .ok (.aload_n 0, 1) := by decide +kernel
theorem d_Fw_writeNote_46 : decode b_Fw_writeNote 46 = .ok (.aload_n 0, 1) := by decide +kernel
theorem d_Fw_writeNote_47 : decode b_Fw_writeNote 47 = .ok (.getfield 19, 3) := by decide +kernel
theorem d_Fw_writeNote_50 : decode b_Fw_writeNote 50 = .ok (.iload_n 1, 1) := by decide +kernel
theorem d_Fw_writeNote_51 : decode b_Fw_writeNote 51 = .ok (.invokevirtual 105, 3) := by decide +kernel
theorem d_Fw_writeNote_54 : decode b_Fw_writeNote 54 = .ok (.invokevirtual 86, 3) := by decide +kernel
theorem d_Fw_writeNote_57 : decode b_Fw_writeNote 57 = .ok (.iconst 0, 1) := by decide +kernel
theorem d_Fw_writeNote_58 : decode b_Fw_writeNote 58 = .ok (.istore_n 2, 1) := by decide +kernel
theorem d_Fw_writeNote_59 : decode b_Fw_writeNote 59 = .ok (.iload_n 2, 1) := by decide +kernel
theorem d_Fw_writeNote_60 : decode b_Fw_writeNote 60 = .ok (.bipush 8, 2) := by decide +kernel
theorem d_Fw_writeNote_62 : decode b_Fw_writeNote 62 = .ok (.if_icmp .ge 22, 3) := by decide +kernel
theorem d_Fw_writeNote_65 : decode b_Fw_writeNote 65 = .ok (.aload_n 0, 1) := by decide +kernel
theorem d_Fw_writeNote_66 : decode b_Fw_writeNote 66 = .ok (.aload_n 0, 1) := by decide +kernel
theorem d_Fw_writeNote_67 : decode b_Fw_writeNote 67 = .ok (.getfield 19, 3) := by decide +kernel
theorem d_Fw_writeNote_70 : decode b_Fw_writeNote 70 = .ok (.iload_n 1, 1) := by decide +kernel
theorem d_Fw_writeNote_71 : decode b_Fw_writeNote 71 = .ok (.iload_n 2, 1) := by decide +kernel
theorem d_Fw_writeNote_72 : decode b_Fw_writeNote 72 = .ok (.invokevirtual 109, 3) := by decide +kernel
theorem d_Fw_writeNote_75 : decode b_Fw_writeNote 75 = .ok (.invokevirtual 86, 3) := by decide +kernel
theorem d_Fw_writeNote_78 : decode b_Fw_writeNote 78 = .ok (.iinc 2 1, 3) := by decide +kernel
theorem d_Fw_writeNote_81 : decode b_Fw_writeNote 81 = .ok (.goto (-22), 3) := by decide +kernel
theorem d_Fw_writeNote_84 : decode b_Fw_writeNote 84 = .ok (.return_, 1) := by decide +kernel
theorem d_Fw_writeFour_0 : decode b_Fw_writeFour 0 = .ok (.aload_n 0, 1) := by decide +kernel
theorem d_Fw_writeFour_1 : decode b_Fw_writeFour 1 = .ok (.getfield 9, 3) := by decide +kernel
theorem d_Fw_writeFour_4 : decode b_Fw_writeFour 4 = .ok (.iload_n 1, 1) := by decide +kernel
theorem d_Fw_writeFour_5 : decode b_Fw_writeFour 5 = .ok (.iconst 4, 1) := by decide +kernel
theorem d_Fw_writeFour_6 : decode b_Fw_writeFour 6 = .ok (.invokevirtual 75, 3) := by decide +kernel
theorem d_Fw_writeFour_9 : decode b_Fw_writeFour 9 = .ok (.return_, 1) := by decide +kernel
theorem d_Tc_init_0 : decode b_Tc_init 0 = .ok (.aload_n 0, 1) := by decide +kernel
theorem d_Tc_init_1 : decode b_Tc_init 1 = .ok (.invokespecial 3, 3) := by decide +kernel
theorem d_Tc_init_4 : decode b_Tc_init 4 = .ok (.aload_n 0, 1) := by decide +kernel
theorem d_Tc_init_5 : decode b_Tc_init 5 = .ok (.aload_n 1, 1) := by decide +kernel
theorem d_Tc_init_6 : decode b_Tc_init 6 = .ok (.putfield 9, 3) := by decide +kernel
theorem d_Tc_init_9 : decode b_Tc_init 9 = .ok (.aload_n 0, 1) := by decide +kernel
theorem d_Tc_init_10 : decode b_Tc_init 10 = .ok (.new 15, 3) := by decide +kernel
theorem d_Tc_init_13 : decode b_Tc_init 13 = .ok (.dup, 1) := by decide +kernel
theorem d_Tc_init_14 : decode b_Tc_init 14 = .ok (.invokespecial 17, 3) := by decide +kernel
theorem d_Tc_init_17 : decode b_Tc_init 17 = .ok (.putfield 18, 3) := by decide +kernel
theorem d_Tc_init_20 : decode b_Tc_init 20 = .ok (.aload_n 0, 1) := by decide +kernel
theorem d_Tc_init_21 : decode b_Tc_init 21 = .ok (.iconst 0, 1) := by decide +kernel
theorem d_Tc_init_22 : decode b_Tc_init 22 = .ok (.putfield 22, 3) := by decide +kernel
theorem d_Tc_init_25 : decode b_Tc_init 25 = .ok (.aload_n 0, 1) := by decide +kernel
theorem d_Tc_init_26 : decode b_Tc_init 26 = .ok (.iconst 0, 1) := by decide +kernel
theorem d_Tc_init_27 : decode b_Tc_init 27 = .ok (.putfield 26, 3) := by decide +kernel
theorem d_Tc_init_30 : decode b_Tc_init 30 = .ok (.return_, 1) := by decide +kernel
theorem d_Tc_wrong_0 : decode b_Tc_wrong 0 = .ok (.aload_n 0, 1) := by decide +kernel
theorem d_Tc_wrong_1 : decode b_Tc_wrong 1 = .ok (.getfield 22, 3) := by decide +kernel
theorem d_Tc_wrong_4 : decode b_Tc_wrong 4 = .ok (.ireturn, 1) := by decide +kernel
theorem d_Tc_place_0 : decode b_Tc_place 0 = .ok (.aload_n 0, 1) := by decide +kernel
theorem d_Tc_place_1 : decode b_Tc_place 1 = .ok (.getfield 26, 3) := by decide +kernel
theorem d_Tc_place_4 : decode b_Tc_place 4 = .ok (.ireturn, 1) := by decide +kernel
theorem d_Tc_threadsFound_0 : decode b_Tc_threadsFound 0 = .ok (.aload_n 0, 1) := by decide +kernel
theorem d_Tc_threadsFound_1 : decode b_Tc_threadsFound 1 = .ok (.getfield 18, 3) := by decide +kernel
theorem d_Tc_threadsFound_4 : decode b_Tc_threadsFound 4 = .ok (.areturn, 1) := by decide +kernel
theorem d_Tc_entries_0 : decode b_Tc_entries 0 = .ok (.aload_n 0, 1) := by decide +kernel
theorem d_Tc_entries_1 : decode b_Tc_entries 1 = .ok (.getfield 9, 3) := by decide +kernel
theorem d_Tc_entries_4 : decode b_Tc_entries 4 = .ok (.bipush 44, 2) := by decide +kernel
theorem d_Tc_entries_6 : decode b_Tc_entries 6 = .ok (.iconst 2, 1) := by decide +kernel
theorem d_Tc_entries_7 : decode b_Tc_entries 7 = .ok (.invokevirtual 29, 3) := by decide +kernel
theorem d_Tc_entries_10 : decode b_Tc_entries 10 = .ok (.ireturn, 1) := by decide +kernel
theorem d_Tc_entryField_0 : decode b_Tc_entryField 0 = .ok (.aload_n 0, 1) := by decide +kernel
theorem d_Tc_entryField_1 : decode b_Tc_entryField 1 = .ok (.getfield 9, 3) := by decide +kernel
theorem d_Tc_entryField_4 : decode b_Tc_entryField 4 = .ok (.aload_n 0, 1) := by decide +kernel
theorem d_Tc_entryField_5 : decode b_Tc_entryField 5 = .ok (.iload_n 1, 1) := by decide +kernel
theorem d_Tc_entryField_6 : decode b_Tc_entryField 6 = .ok (.iload_n 2, 1) := by decide +kernel
theorem d_Tc_entryField_7 : decode b_Tc_entryField 7 = .ok (.invokevirtual 35, 3) := by decide +kernel
theorem d_Tc_entryField_10 : decode b_Tc_entryField 10 = .ok (.iconst 4, 1) := by decide +kernel
theorem d_Tc_entryField_11 : decode b_Tc_entryField 11 = .ok (.invokevirtual 29, 3) := by decide +kernel
theorem d_Tc_entryField_14 : decode b_Tc_entryField 14 = .ok (.ireturn, 1) := by decide +kernel
theorem d_Tc_passes_0 : decode b_Tc_passes 0 = .ok (.aload_n 0, 1) := by decide +kernel
theorem d_Tc_passes_1 : decode b_Tc_passes 1 = .ok (.iconst 0, 1) := by decide +kernel
theorem d_Tc_passes_2 : decode b_Tc_passes 2 = .ok (.putfield 22, 3) := by decide +kernel
theorem d_Tc_passes_5 : decode b_Tc_passes 5 = .ok (.aload_n 0, 1) := by decide +kernel
theorem d_Tc_passes_6 : decode b_Tc_passes 6 = .ok (.iconst 0, 1) := by decide +kernel
theorem d_Tc_passes_7 : decode b_Tc_passes 7 = .ok (.putfield 26, 3) := by decide +kernel
theorem d_Tc_passes_10 : decode b_Tc_passes 10 = .ok (.aload_n 0, 1) := by decide +kernel
theorem d_Tc_passes_11 : decode b_Tc_passes 11 = .ok (.getfield 18, 3) := by decide +kernel
theorem d_Tc_passes_14 : decode b_Tc_passes 14 = .ok (.invokevirtual 38, 3) := by decide +kernel
theorem d_Tc_passes_17 : decode b_Tc_passes 17 = .ok (.aload_n 0, 1) := by decide +kernel
theorem d_Tc_passes_18 : decode b_Tc_passes 18 = .ok (.invokevirtual 41, 3) := by decide +kernel
theorem d_Tc_passes_21 : decode b_Tc_passes 21 = .ok (.ifCond .eq 21, 3) := by decide +kernel
theorem d_Tc_passes_24 : decode b_Tc_passes 24 = .ok (.aload_n 0, 1) := by decide +kernel
theorem d_Tc_passes_25 : decode b_Tc_passes 25 = .ok (.invokevirtual 45, 3) := by decide +kernel
theorem d_Tc_passes_28 : decode b_Tc_passes 28 = .ok (.ifCond .eq 14, 3) := by decide +kernel
theorem d_Tc_passes_31 : decode b_Tc_passes 31 = .ok (.aload_n 0, 1) := by decide +kernel
theorem d_Tc_passes_32 : decode b_Tc_passes 32 = .ok (.invokevirtual 48, 3) := by decide +kernel
theorem d_Tc_passes_35 : decode b_Tc_passes 35 = .ok (.ifCond .eq 7, 3) := by decide +kernel
theorem d_Tc_passes_38 : decode b_Tc_passes 38 = .ok (.iconst 1, 1) := by decide +kernel
theorem d_Tc_passes_39 : decode b_Tc_passes 39 = .ok (.goto 4, 3) := by decide +kernel
theorem d_Tc_passes_42 : decode b_Tc_passes 42 = .ok (.iconst 0, 1) := by decide +kernel
theorem d_Tc_passes_43 : decode b_Tc_passes 43 = .ok (.ireturn, 1) := by decide +kernel
theorem d_Tc_refuse_0 : decode b_Tc_refuse 0 = .ok (.aload_n 0, 1) := by decide +kernel
theorem d_Tc_refuse_1 : decode b_Tc_refuse 1 = .ok (.iload_n 1, 1) := by decide +kernel
theorem d_Tc_refuse_2 : decode b_Tc_refuse 2 = .ok (.putfield 22, 3) := by decide +kernel
theorem d_Tc_refuse_5 : decode b_Tc_refuse 5 = .ok (.aload_n 0, 1) := by decide +kernel
theorem d_Tc_refuse_6 : decode b_Tc_refuse 6 = .ok (.iload_n 2, 1) := by decide +kernel
theorem d_Tc_refuse_7 : decode b_Tc_refuse 7 = .ok (.putfield 26, 3) := by decide +kernel
theorem d_Tc_refuse_10 : decode b_Tc_refuse 10 = .ok (.iconst 0, 1) := by decide +kernel
theorem d_Tc_refuse_11 : decode b_Tc_refuse 11 = .ok (.ireturn, 1) := by decide +kernel
theorem d_Tc_fieldPlace_0 : decode b_Tc_fieldPlace 0 = .ok (.bipush 52, 2) := by decide +kernel
theorem d_Tc_fieldPlace_2 : decode b_Tc_fieldPlace 2 = .ok (.iload_n 1, 1) := by decide +kernel
theorem d_Tc_fieldPlace_3 : decode b_Tc_fieldPlace 3 = .ok (.bipush 32, 2) := by decide +kernel
theorem d_Tc_fieldPlace_5 : decode b_Tc_fieldPlace 5 = .ok (.imul, 1) := by decide +kernel
theorem d_Tc_fieldPlace_6 : decode b_Tc_fieldPlace 6 = .ok (.iadd, 1) := by decide +kernel
theorem d_Tc_fieldPlace_7 : decode b_Tc_fieldPlace 7 = .ok (.iconst 4, 1) := by decide +kernel
theorem d_Tc_fieldPlace_8 : decode b_Tc_fieldPlace 8 = .ok (.iload_n 2, 1) := by decide +kernel
theorem d_Tc_fieldPlace_9 : decode b_Tc_fieldPlace 9 = .ok (.imul, 1) := by decide +kernel
theorem d_Tc_fieldPlace_10 : decode b_Tc_fieldPlace 10 = .ok (.iadd, 1) := by decide +kernel
theorem d_Tc_fieldPlace_11 : decode b_Tc_fieldPlace 11 = .ok (.ireturn, 1) := by decide +kernel
theorem d_Tc_headerPasses_0 : decode b_Tc_headerPasses 0 = .ok (.aload_n 0, 1) := by decide +kernel
theorem d_Tc_headerPasses_1 : decode b_Tc_headerPasses 1 = .ok (.getfield 9, 3) := by decide +kernel
theorem d_Tc_headerPasses_4 : decode b_Tc_headerPasses 4 = .ok (.invokevirtual 51, 3) := by decide +kernel
theorem d_Tc_headerPasses_7 : decode b_Tc_headerPasses 7 = .ok (.bipush 52, 2) := by decide +kernel
theorem d_Tc_headerPasses_9 : decode b_Tc_headerPasses 9 = .ok (.if_icmp .ge 16, 3) := by decide +kernel
theorem d_Tc_headerPasses_12 : decode b_Tc_headerPasses 12 = .ok (.aload_n 0, 1) := by decide +kernel
theorem d_Tc_headerPasses_13 : decode b_Tc_headerPasses 13 = .ok (.iconst 1, 1) := by decide +kernel
theorem d_Tc_headerPasses_14 : decode b_Tc_headerPasses 14 = .ok (.aload_n 0, 1) := by decide +kernel
theorem d_Tc_headerPasses_15 : decode b_Tc_headerPasses 15 = .ok (.getfield 9, 3) := by decide +kernel
theorem d_Tc_headerPasses_18 : decode b_Tc_headerPasses 18 = .ok (.invokevirtual 51, 3) := by decide +kernel
theorem d_Tc_headerPasses_21 : decode b_Tc_headerPasses 21 = .ok (.invokevirtual 55, 3) := by decide +kernel
theorem d_Tc_headerPasses_24 : decode b_Tc_headerPasses 24 = .ok (.ireturn, 1) := by decide +kernel
theorem d_Tc_headerPasses_25 : decode b_Tc_headerPasses 25 = .ok (.iconst 0, 1) := by decide +kernel
theorem d_Tc_headerPasses_26 : decode b_Tc_headerPasses 26 = .ok (.istore_n 1, 1) := by decide +kernel
theorem d_Tc_headerPasses_27 : decode b_Tc_headerPasses 27 = .ok (.iconst 0, 1) := by decide +kernel
theorem d_Tc_headerPasses_28 : decode b_Tc_headerPasses 28 = .ok (.istore_n 2, 1) := by decide +kernel
theorem d_Tc_headerPasses_29 : decode b_Tc_headerPasses 29 = .ok (.iload_n 2, 1) := by decide +kernel
theorem d_Tc_headerPasses_30 : decode b_Tc_headerPasses 30 = .ok (.getstatic 59, 3) := by decide +kernel
theorem d_Tc_headerPasses_33 : decode b_Tc_headerPasses 33 = .ok (.arraylength, 1) := by decide +kernel
theorem d_Tc_headerPasses_34 : decode b_Tc_headerPasses 34 = .ok (.if_icmp .ge 53, 3) := by decide +kernel
theorem d_Tc_headerPasses_37 : decode b_Tc_headerPasses 37 = .ok (.iload_n 2, 1) := by decide +kernel
theorem d_Tc_headerPasses_38 : decode b_Tc_headerPasses 38 = .ok (.getstatic 63, 3) := by decide +kernel
theorem d_Tc_headerPasses_41 : decode b_Tc_headerPasses 41 = .ok (.arraylength, 1) := by decide +kernel
theorem d_Tc_headerPasses_42 : decode b_Tc_headerPasses 42 = .ok (.if_icmp .ge 45, 3) := by decide +kernel
theorem d_Tc_headerPasses_45 : decode b_Tc_headerPasses 45 = .ok (.aload_n 0, 1) := by decide +kernel
theorem d_Tc_headerPasses_46 : decode b_Tc_headerPasses 46 = .ok (.iload_n 2, 1) := by decide +kernel
theorem d_Tc_headerPasses_47 : decode b_Tc_headerPasses 47 = .ok (.aload_n 0, 1) := by decide +kernel
theorem d_Tc_headerPasses_48 : decode b_Tc_headerPasses 48 = .ok (.getfield 9, 3) := by decide +kernel
theorem d_Tc_headerPasses_51 : decode b_Tc_headerPasses 51 = .ok (.iload_n 1, 1) := by decide +kernel
theorem d_Tc_headerPasses_52 : decode b_Tc_headerPasses 52 = .ok (.getstatic 63, 3) := by decide +kernel
theorem d_Tc_headerPasses_55 : decode b_Tc_headerPasses 55 = .ok (.iload_n 2, 1) := by decide +kernel
theorem d_Tc_headerPasses_56 : decode b_Tc_headerPasses 56 = .ok (.iaload, 1) := by decide +kernel
theorem d_Tc_headerPasses_57 : decode b_Tc_headerPasses 57 = .ok (.invokevirtual 29, 3) := by decide +kernel
theorem d_Tc_headerPasses_60 : decode b_Tc_headerPasses 60 = .ok (.invokevirtual 66, 3) := by decide +kernel
theorem d_Tc_headerPasses_63 : decode b_Tc_headerPasses 63 = .ok (.ifCond .ne 10, 3) := by decide +kernel
theorem d_Tc_headerPasses_66 : decode b_Tc_headerPasses 66 = .ok (.aload_n 0, 1) := by decide +kernel
theorem d_Tc_headerPasses_67 : decode b_Tc_headerPasses 67 = .ok (.iconst 2, 1) := by decide +kernel
theorem d_Tc_headerPasses_68 : decode b_Tc_headerPasses 68 = .ok (.iload_n 1, 1) := by decide +kernel
theorem d_Tc_headerPasses_69 : decode b_Tc_headerPasses 69 = .ok (.invokevirtual 55, 3) := by decide +kernel
theorem d_Tc_headerPasses_72 : decode b_Tc_headerPasses 72 = .ok (.ireturn, 1) := by decide +kernel
theorem d_Tc_headerPasses_73 : decode b_Tc_headerPasses 73 = .ok (.iload_n 1, 1) := by decide +kernel
theorem d_Tc_headerPasses_74 : decode b_Tc_headerPasses 74 = .ok (.getstatic 63, 3) := by decide +kernel
theorem d_Tc_headerPasses_77 : decode b_Tc_headerPasses 77 = .ok (.iload_n 2, 1) := by decide +kernel
theorem d_Tc_headerPasses_78 : decode b_Tc_headerPasses 78 = .ok (.iaload, 1) := by decide +kernel
theorem d_Tc_headerPasses_79 : decode b_Tc_headerPasses 79 = .ok (.iadd, 1) := by decide +kernel
theorem d_Tc_headerPasses_80 : decode b_Tc_headerPasses 80 = .ok (.istore_n 1, 1) := by decide +kernel
theorem d_Tc_headerPasses_81 : decode b_Tc_headerPasses 81 = .ok (.iinc 2 1, 3) := by decide +kernel
theorem d_Tc_headerPasses_84 : decode b_Tc_headerPasses 84 = .ok (.goto (-55), 3) := by decide +kernel
theorem d_Tc_headerPasses_87 : decode b_Tc_headerPasses 87 = .ok (.aload_n 0, 1) := by decide +kernel
theorem d_Tc_headerPasses_88 : decode b_Tc_headerPasses 88 = .ok (.aload_n 0, 1) := by decide +kernel
theorem d_Tc_headerPasses_89 : decode b_Tc_headerPasses 89 = .ok (.invokevirtual 69, 3) := by decide +kernel
theorem d_Tc_headerPasses_92 : decode b_Tc_headerPasses 92 = .ok (.iconst 0, 1) := by decide +kernel
theorem d_Tc_headerPasses_93 : decode b_Tc_headerPasses 93 = .ok (.invokevirtual 35, 3) := by decide +kernel
theorem d_Tc_headerPasses_96 : decode b_Tc_headerPasses 96 = .ok (.aload_n 0, 1) := by decide +kernel
theorem d_Tc_headerPasses_97 : decode b_Tc_headerPasses 97 = .ok (.getfield 9, 3) := by decide +kernel
theorem d_Tc_headerPasses_100 : decode b_Tc_headerPasses 100 = .ok (.invokevirtual 51, 3) := by decide +kernel
theorem d_Tc_headerPasses_103 : decode b_Tc_headerPasses 103 = .ok (.if_icmp .le 18, 3) := by decide +kernel
theorem d_Tc_headerPasses_106 : decode b_Tc_headerPasses 106 = .ok (.aload_n 0, 1) := by decide +kernel
theorem d_Tc_headerPasses_107 : decode b_Tc_headerPasses 107 = .ok (.iconst 1, 1) := by decide +kernel
theorem d_Tc_headerPasses_108 : decode b_Tc_headerPasses 108 = .ok (.aload_n 0, 1) := by decide +kernel
theorem d_Tc_headerPasses_109 : decode b_Tc_headerPasses 109 = .ok (.getfield 9, 3) := by decide +kernel
theorem d_Tc_headerPasses_112 : decode b_Tc_headerPasses 112 = .ok (.invokevirtual 51, 3) := by decide +kernel
theorem d_Tc_headerPasses_115 : decode b_Tc_headerPasses 115 = .ok (.invokevirtual 55, 3) := by decide +kernel
theorem d_Tc_headerPasses_118 : decode b_Tc_headerPasses 118 = .ok (.ifCond .eq 7, 3) := by decide +kernel
theorem d_Tc_headerPasses_121 : decode b_Tc_headerPasses 121 = .ok (.iconst 1, 1) := by decide +kernel
theorem d_Tc_headerPasses_122 : decode b_Tc_headerPasses 122 = .ok (.goto 4, 3) := by decide +kernel
theorem d_Tc_headerPasses_125 : decode b_Tc_headerPasses 125 = .ok (.iconst 0, 1) := by decide +kernel
theorem d_Tc_headerPasses_126 : decode b_Tc_headerPasses 126 = .ok (.ireturn, 1) := by decide +kernel
theorem d_Tc_headerFieldFits_0 : decode b_Tc_headerFieldFits 0 = .ok (.iload_n 1, 1) := by decide +kernel
theorem d_Tc_headerFieldFits_1 : decode b_Tc_headerFieldFits 1 = .ok (.bipush 25, 2) := by decide +kernel
theorem d_Tc_headerFieldFits_3 : decode b_Tc_headerFieldFits 3 = .ok (.if_icmp .ne 20, 3) := by decide +kernel
theorem d_Tc_headerFieldFits_6 : decode b_Tc_headerFieldFits 6 = .ok (.iload_n 2, 1) := by decide +kernel
theorem d_Tc_headerFieldFits_7 : decode b_Tc_headerFieldFits 7 = .ok (.iconst 1, 1) := by decide +kernel
theorem d_Tc_headerFieldFits_8 : decode b_Tc_headerFieldFits 8 = .ok (.if_icmp .lt 13, 3) := by decide +kernel
theorem d_Tc_headerFieldFits_11 : decode b_Tc_headerFieldFits 11 = .ok (.iload_n 2, 1) := by decide +kernel
theorem d_Tc_headerFieldFits_12 : decode b_Tc_headerFieldFits 12 = .ok (.bipush 7, 2) := by decide +kernel
theorem d_Tc_headerFieldFits_14 : decode b_Tc_headerFieldFits 14 = .ok (.if_icmp .gt 7, 3) := by decide +kernel
theorem d_Tc_headerFieldFits_17 : decode b_Tc_headerFieldFits 17 = .ok (.iconst 1, 1) := by decide +kernel
theorem d_Tc_headerFieldFits_18 : decode b_Tc_headerFieldFits 18 = .ok (.goto 4, 3) := by decide +kernel
theorem d_Tc_headerFieldFits_21 : decode b_Tc_headerFieldFits 21 = .ok (.iconst 0, 1) := by decide +kernel
theorem d_Tc_headerFieldFits_22 : decode b_Tc_headerFieldFits 22 = .ok (.ireturn, 1) := by decide +kernel
theorem d_Tc_headerFieldFits_23 : decode b_Tc_headerFieldFits 23 = .ok (.iload_n 1, 1) := by decide +kernel
theorem d_Tc_headerFieldFits_24 : decode b_Tc_headerFieldFits 24 = .ok (.ifCond .lt 24, 3) := by decide +kernel
theorem d_Tc_headerFieldFits_27 : decode b_Tc_headerFieldFits 27 = .ok (.iload_n 1, 1) := by decide +kernel
theorem d_Tc_headerFieldFits_28 : decode b_Tc_headerFieldFits 28 = .ok (.getstatic 59, 3) := by decide +kernel
theorem d_Tc_headerFieldFits_31 : decode b_Tc_headerFieldFits 31 = .ok (.arraylength, 1) := by decide +kernel
theorem d_Tc_headerFieldFits_32 : decode b_Tc_headerFieldFits 32 = .ok (.if_icmp .ge 16, 3) := by decide +kernel
theorem d_Tc_headerFieldFits_35 : decode b_Tc_headerFieldFits 35 = .ok (.iload_n 2, 1) := by decide +kernel
theorem d_Tc_headerFieldFits_36 : decode b_Tc_headerFieldFits 36 = .ok (.getstatic 59, 3) := by decide +kernel
theorem d_Tc_headerFieldFits_39 : decode b_Tc_headerFieldFits 39 = .ok (.iload_n 1, 1) := by decide +kernel
theorem d_Tc_headerFieldFits_40 : decode b_Tc_headerFieldFits 40 = .ok (.iaload, 1) := by decide +kernel
theorem d_Tc_headerFieldFits_41 : decode b_Tc_headerFieldFits 41 = .ok (.if_icmp .ne 7, 3) := by decide +kernel
theorem d_Tc_headerFieldFits_44 : decode b_Tc_headerFieldFits 44 = .ok (.iconst 1, 1) := by decide +kernel
theorem d_Tc_headerFieldFits_45 : decode b_Tc_headerFieldFits 45 = .ok (.goto 4, 3) := by decide +kernel
theorem d_Tc_headerFieldFits_48 : decode b_Tc_headerFieldFits 48 = .ok (.iconst 0, 1) := by decide +kernel
theorem d_Tc_headerFieldFits_49 : decode b_Tc_headerFieldFits 49 = .ok (.ireturn, 1) := by decide +kernel
theorem d_Tc_entriesPass_0 : decode b_Tc_entriesPass 0 = .ok (.aload_n 0, 1) := by decide +kernel
theorem d_Tc_entriesPass_1 : decode b_Tc_entriesPass 1 = .ok (.invokevirtual 69, 3) := by decide +kernel
theorem d_Tc_entriesPass_4 : decode b_Tc_entriesPass 4 = .ok (.istore_n 1, 1) := by decide +kernel
theorem d_Tc_entriesPass_5 : decode b_Tc_entriesPass 5 = .ok (.iconst 0, 1) := by decide +kernel
theorem d_Tc_entriesPass_6 : decode b_Tc_entriesPass 6 = .ok (.istore_n 2, 1) := by decide +kernel
theorem d_Tc_entriesPass_7 : decode b_Tc_entriesPass 7 = .ok (.iload_n 2, 1) := by decide +kernel
theorem d_Tc_entriesPass_8 : decode b_Tc_entriesPass 8 = .ok (.iload_n 1, 1) := by decide +kernel
theorem d_Tc_entriesPass_9 : decode b_Tc_entriesPass 9 = .ok (.if_icmp .ge 35, 3) := by decide +kernel
theorem d_Tc_entriesPass_12 : decode b_Tc_entriesPass 12 = .ok (.aload_n 0, 1) := by decide +kernel
theorem d_Tc_entriesPass_13 : decode b_Tc_entriesPass 13 = .ok (.iload_n 2, 1) := by decide +kernel
theorem d_Tc_entriesPass_14 : decode b_Tc_entriesPass 14 = .ok (.invokevirtual 72, 3) := by decide +kernel
theorem d_Tc_entriesPass_17 : decode b_Tc_entriesPass 17 = .ok (.ifCond .eq 19, 3) := by decide +kernel
theorem d_Tc_entriesPass_20 : decode b_Tc_entriesPass 20 = .ok (.aload_n 0, 1) := by decide +kernel
theorem d_Tc_entriesPass_21 : decode b_Tc_entriesPass 21 = .ok (.iload_n 2, 1) := by decide +kernel
theorem d_Tc_entriesPass_22 : decode b_Tc_entriesPass 22 = .ok (.invokevirtual 76, 3) := by decide +kernel
theorem d_Tc_entriesPass_25 : decode b_Tc_entriesPass 25 = .ok (.ifCond .eq 11, 3) := by decide +kernel
theorem d_Tc_entriesPass_28 : decode b_Tc_entriesPass 28 = .ok (.aload_n 0, 1) := by decide +kernel
theorem d_Tc_entriesPass_29 : decode b_Tc_entriesPass 29 = .ok (.iload_n 2, 1) := by decide +kernel
theorem d_Tc_entriesPass_30 : decode b_Tc_entriesPass 30 = .ok (.invokevirtual 79, 3) := by decide +kernel
theorem d_Tc_entriesPass_33 : decode b_Tc_entriesPass 33 = .ok (.ifCond .ne 5, 3) := by decide +kernel
theorem d_Tc_entriesPass_36 : decode b_Tc_entriesPass 36 = .ok (.iconst 0, 1) := by decide +kernel
theorem d_Tc_entriesPass_37 : decode b_Tc_entriesPass 37 = .ok (.ireturn, 1) := by decide +kernel
theorem d_Tc_entriesPass_38 : decode b_Tc_entriesPass 38 = .ok (.iinc 2 1, 3) := by decide +kernel
theorem d_Tc_entriesPass_41 : decode b_Tc_entriesPass 41 = .ok (.goto (-34), 3) := by decide +kernel
theorem d_Tc_entriesPass_44 : decode b_Tc_entriesPass 44 = .ok (.iconst 1, 1) := by decide +kernel
theorem d_Tc_entriesPass_45 : decode b_Tc_entriesPass 45 = .ok (.ireturn, 1) := by decide +kernel
theorem d_Tc_fieldsPass_0 : decode b_Tc_fieldsPass 0 = .ok (.iconst 0, 1) := by decide +kernel
theorem d_Tc_fieldsPass_1 : decode b_Tc_fieldsPass 1 = .ok (.istore_n 2, 1) := by decide +kernel
theorem d_Tc_fieldsPass_2 : decode b_Tc_fieldsPass 2 = .ok (.iload_n 2, 1) := by decide +kernel
theorem d_Tc_fieldsPass_3 : decode b_Tc_fieldsPass 3 = .ok (.bipush 8, 2) := by decide +kernel
theorem d_Tc_fieldsPass_5 : decode b_Tc_fieldsPass 5 = .ok (.if_icmp .ge 55, 3) := by decide +kernel
theorem d_Tc_fieldsPass_8 : decode b_Tc_fieldsPass 8 = .ok (.aload_n 0, 1) := by decide +kernel
theorem d_Tc_fieldsPass_9 : decode b_Tc_fieldsPass 9 = .ok (.iload_n 1, 1) := by decide +kernel
theorem d_Tc_fieldsPass_10 : decode b_Tc_fieldsPass 10 = .ok (.iload_n 2, 1) := by decide +kernel
theorem d_Tc_fieldsPass_11 : decode b_Tc_fieldsPass 11 = .ok (.invokevirtual 82, 3) := by decide +kernel
theorem d_Tc_fieldsPass_14 : decode b_Tc_fieldsPass 14 = .ok (.istore_n 3, 1) := by decide +kernel
theorem d_Tc_fieldsPass_15 : decode b_Tc_fieldsPass 15 = .ok (.iload_n 1, 1) := by decide +kernel
theorem d_Tc_fieldsPass_16 : decode b_Tc_fieldsPass 16 = .ok (.ifCond .ne 12, 3) := by decide +kernel
theorem d_Tc_fieldsPass_19 : decode b_Tc_fieldsPass 19 = .ok (.aload_n 0, 1) := by decide +kernel
theorem d_Tc_fieldsPass_20 : decode b_Tc_fieldsPass 20 = .ok (.iload_n 2, 1) := by decide +kernel
theorem d_Tc_fieldsPass_21 : decode b_Tc_fieldsPass 21 = .ok (.iload_n 3, 1) := by decide +kernel
theorem d_Tc_fieldsPass_22 : decode b_Tc_fieldsPass 22 = .ok (.invokevirtual 85, 3) := by decide +kernel
theorem d_Tc_fieldsPass_25 : decode b_Tc_fieldsPass 25 = .ok (.goto 10, 3) := by decide +kernel
theorem d_Tc_fieldsPass_28 : decode b_Tc_fieldsPass 28 = .ok (.aload_n 0, 1) := by decide +kernel
theorem d_Tc_fieldsPass_29 : decode b_Tc_fieldsPass 29 = .ok (.iload_n 1, 1) := by decide +kernel
theorem d_Tc_fieldsPass_30 : decode b_Tc_fieldsPass 30 = .ok (.iload_n 2, 1) := by decide +kernel
theorem d_Tc_fieldsPass_31 : decode b_Tc_fieldsPass 31 = .ok (.iload_n 3, 1) := by decide +kernel
theorem d_Tc_fieldsPass_32 : decode b_Tc_fieldsPass 32 = .ok (.invokevirtual 88, 3) := by decide +kernel
theorem d_Tc_fieldsPass_35 : decode b_Tc_fieldsPass 35 = .ok (.istore 4, 2) := by decide +kernel
theorem d_Tc_fieldsPass_37 : decode b_Tc_fieldsPass 37 = .ok (.iload 4, 2) := by decide +kernel
theorem d_Tc_fieldsPass_39 : decode b_Tc_fieldsPass 39 = .ok (.ifCond .ne 15, 3) := by decide +kernel
theorem d_Tc_fieldsPass_42 : decode b_Tc_fieldsPass 42 = .ok (.aload_n 0, 1) := by decide +kernel
theorem d_Tc_fieldsPass_43 : decode b_Tc_fieldsPass 43 = .ok (.iconst 3, 1) := by decide +kernel
theorem d_Tc_fieldsPass_44 : decode b_Tc_fieldsPass 44 = .ok (.aload_n 0, 1) := by decide +kernel
theorem d_Tc_fieldsPass_45 : decode b_Tc_fieldsPass 45 = .ok (.iload_n 1, 1) := by decide +kernel
theorem d_Tc_fieldsPass_46 : decode b_Tc_fieldsPass 46 = .ok (.iload_n 2, 1) := by decide +kernel
theorem d_Tc_fieldsPass_47 : decode b_Tc_fieldsPass 47 = .ok (.invokevirtual 35, 3) := by decide +kernel
theorem d_Tc_fieldsPass_50 : decode b_Tc_fieldsPass 50 = .ok (.invokevirtual 55, 3) := by decide +kernel
theorem d_Tc_fieldsPass_53 : decode b_Tc_fieldsPass 53 = .ok (.ireturn, 1) := by decide +kernel
theorem d_Tc_fieldsPass_54 : decode b_Tc_fieldsPass 54 = .ok (.iinc 2 1, 3) := by decide +kernel
theorem d_Tc_fieldsPass_57 : decode b_Tc_fieldsPass 57 = .ok (.goto (-55), 3) := by decide +kernel
theorem d_Tc_fieldsPass_60 : decode b_Tc_fieldsPass 60 = .ok (.iconst 1, 1) := by decide +kernel
theorem d_Tc_fieldsPass_61 : decode b_Tc_fieldsPass 61 = .ok (.ireturn, 1) := by decide +kernel
theorem d_Tc_notesFieldFits_0 : decode b_Tc_notesFieldFits 0 = .ok (.iload_n 1, 1) := by decide +kernel
theorem d_Tc_notesFieldFits_1 : decode b_Tc_notesFieldFits 1 = .ok (.tableswitch 114 0 7 #[47, 58, 114, 114, 77, 87, 114, 103], 47) := by decide +kernel
theorem d_Tc_notesFieldFits_48 : decode b_Tc_notesFieldFits 48 = .ok (.iload_n 2, 1) := by decide +kernel
theorem d_Tc_notesFieldFits_49 : decode b_Tc_notesFieldFits 49 = .ok (.iconst 4, 1) := by decide +kernel
theorem d_Tc_notesFieldFits_50 : decode b_Tc_notesFieldFits 50 = .ok (.if_icmp .ne 7, 3) := by decide +kernel
theorem d_Tc_notesFieldFits_53 : decode b_Tc_notesFieldFits 53 = .ok (.iconst 1, 1) := by decide +kernel
theorem d_Tc_notesFieldFits_54 : decode b_Tc_notesFieldFits 54 = .ok (.goto 4, 3) := by decide +kernel
theorem d_Tc_notesFieldFits_57 : decode b_Tc_notesFieldFits 57 = .ok (.iconst 0, 1) := by decide +kernel
theorem d_Tc_notesFieldFits_58 : decode b_Tc_notesFieldFits 58 = .ok (.ireturn, 1) := by decide +kernel
theorem d_Tc_notesFieldFits_59 : decode b_Tc_notesFieldFits 59 = .ok (.iload_n 2, 1) := by decide +kernel
theorem d_Tc_notesFieldFits_60 : decode b_Tc_notesFieldFits 60 = .ok (.aload_n 0, 1) := by decide +kernel
theorem d_Tc_notesFieldFits_61 : decode b_Tc_notesFieldFits 61 = .ok (.aload_n 0, 1) := by decide +kernel
theorem d_Tc_notesFieldFits_62 : decode b_Tc_notesFieldFits 62 = .ok (.invokevirtual 69, 3) := by decide +kernel
theorem d_Tc_notesFieldFits_65 : decode b_Tc_notesFieldFits 65 = .ok (.iconst 0, 1) := by decide +kernel
theorem d_Tc_notesFieldFits_66 : decode b_Tc_notesFieldFits 66 = .ok (.invokevirtual 35, 3) := by decide +kernel
theorem d_Tc_notesFieldFits_69 : decode b_Tc_notesFieldFits 69 = .ok (.if_icmp .lt 7, 3) := by decide +kernel
theorem d_Tc_notesFieldFits_72 : decode b_Tc_notesFieldFits 72 = .ok (.iconst 1, 1) := by decide +kernel
theorem d_Tc_notesFieldFits_73 : decode b_Tc_notesFieldFits 73 = .ok (.goto 4, 3) := by decide +kernel
theorem d_Tc_notesFieldFits_76 : decode b_Tc_notesFieldFits 76 = .ok (.iconst 0, 1) := by decide +kernel
theorem d_Tc_notesFieldFits_77 : decode b_Tc_notesFieldFits 77 = .ok (.ireturn, 1) := by decide +kernel
theorem d_Tc_notesFieldFits_78 : decode b_Tc_notesFieldFits 78 = .ok (.iload_n 2, 1) := by decide +kernel
theorem d_Tc_notesFieldFits_79 : decode b_Tc_notesFieldFits 79 = .ok (.ifCond .lt 7, 3) := by decide +kernel
theorem d_Tc_notesFieldFits_82 : decode b_Tc_notesFieldFits 82 = .ok (.iconst 1, 1) := by decide +kernel
theorem d_Tc_notesFieldFits_83 : decode b_Tc_notesFieldFits 83 = .ok (.goto 4, 3) := by decide +kernel
theorem d_Tc_notesFieldFits_86 : decode b_Tc_notesFieldFits 86 = .ok (.iconst 0, 1) := by decide +kernel
theorem d_Tc_notesFieldFits_87 : decode b_Tc_notesFieldFits 87 = .ok (.ireturn, 1) := by decide +kernel
theorem d_Tc_notesFieldFits_88 : decode b_Tc_notesFieldFits 88 = .ok (.iload_n 2, 1) := by decide +kernel
theorem d_Tc_notesFieldFits_89 : decode b_Tc_notesFieldFits 89 = .ok (.aload_n 0, 1) := by decide +kernel
theorem d_Tc_notesFieldFits_90 : decode b_Tc_notesFieldFits 90 = .ok (.iconst 0, 1) := by decide +kernel
theorem d_Tc_notesFieldFits_91 : decode b_Tc_notesFieldFits 91 = .ok (.iconst 4, 1) := by decide +kernel
theorem d_Tc_notesFieldFits_92 : decode b_Tc_notesFieldFits 92 = .ok (.invokevirtual 82, 3) := by decide +kernel
theorem d_Tc_notesFieldFits_95 : decode b_Tc_notesFieldFits 95 = .ok (.if_icmp .ne 7, 3) := by decide +kernel
theorem d_Tc_notesFieldFits_98 : decode b_Tc_notesFieldFits 98 = .ok (.iconst 1, 1) := by decide +kernel
theorem d_Tc_notesFieldFits_99 : decode b_Tc_notesFieldFits 99 = .ok (.goto 4, 3) := by decide +kernel
theorem d_Tc_notesFieldFits_102 : decode b_Tc_notesFieldFits 102 = .ok (.iconst 0, 1) := by decide +kernel
theorem d_Tc_notesFieldFits_103 : decode b_Tc_notesFieldFits 103 = .ok (.ireturn, 1) := by decide +kernel
theorem d_Tc_notesFieldFits_104 : decode b_Tc_notesFieldFits 104 = .ok (.iload_n 2, 1) := by decide +kernel
theorem d_Tc_notesFieldFits_105 : decode b_Tc_notesFieldFits 105 = .ok (.iconst 4, 1) := by decide +kernel
theorem d_Tc_notesFieldFits_106 : decode b_Tc_notesFieldFits 106 = .ok (.if_icmp .ne 7, 3) := by decide +kernel
theorem d_Tc_notesFieldFits_109 : decode b_Tc_notesFieldFits 109 = .ok (.iconst 1, 1) := by decide +kernel
theorem d_Tc_notesFieldFits_110 : decode b_Tc_notesFieldFits 110 = .ok (.goto 4, 3) := by decide +kernel
theorem d_Tc_notesFieldFits_113 : decode b_Tc_notesFieldFits 113 = .ok (.iconst 0, 1) := by decide +kernel
theorem d_Tc_notesFieldFits_114 : decode b_Tc_notesFieldFits 114 = .ok (.ireturn, 1) := by decide +kernel
theorem d_Tc_notesFieldFits_115 : decode b_Tc_notesFieldFits 115 = .ok (.iload_n 2, 1) := by decide +kernel
theorem d_Tc_notesFieldFits_116 : decode b_Tc_notesFieldFits 116 = .ok (.ifCond .ne 7, 3) := by decide +kernel
theorem d_Tc_notesFieldFits_119 : decode b_Tc_notesFieldFits 119 = .ok (.iconst 1, 1) := by decide +kernel
theorem d_Tc_notesFieldFits_120 : decode b_Tc_notesFieldFits 120 = .ok (.goto 4, 3) := by decide +kernel
theorem d_Tc_notesFieldFits_123 : decode b_Tc_notesFieldFits 123 = .ok (.iconst 0, 1) := by decide +kernel
theorem d_Tc_notesFieldFits_124 : decode b_Tc_notesFieldFits 124 = .ok (.ireturn, 1) := by decide +kernel
theorem d_Tc_regionFieldFits_0 : decode b_Tc_regionFieldFits 0 = .ok (.iload_n 2, 1) := by decide +kernel
theorem d_Tc_regionFieldFits_1 : decode b_Tc_regionFieldFits 1 = .ok (.tableswitch 169 0 6 #[43, 54, 73, 90, 100, 124, 153], 43) := by decide +kernel
theorem d_Tc_regionFieldFits_44 : decode b_Tc_regionFieldFits 44 = .ok (.iload_n 3, 1) := by decide +kernel
theorem d_Tc_regionFieldFits_45 : decode b_Tc_regionFieldFits 45 = .ok (.iconst 1, 1) := by decide +kernel
theorem d_Tc_regionFieldFits_46 : decode b_Tc_regionFieldFits 46 = .ok (.if_icmp .ne 7, 3) := by decide +kernel
theorem d_Tc_regionFieldFits_49 : decode b_Tc_regionFieldFits 49 = .ok (.iconst 1, 1) := by decide +kernel
theorem d_Tc_regionFieldFits_50 : decode b_Tc_regionFieldFits 50 = .ok (.goto 4, 3) := by decide +kernel
theorem d_Tc_regionFieldFits_53 : decode b_Tc_regionFieldFits 53 = .ok (.iconst 0, 1) := by decide +kernel
theorem d_Tc_regionFieldFits_54 : decode b_Tc_regionFieldFits 54 = .ok (.ireturn, 1) := by decide +kernel
theorem d_Tc_regionFieldFits_55 : decode b_Tc_regionFieldFits 55 = .ok (.iload_n 3, 1) := by decide +kernel
theorem d_Tc_regionFieldFits_56 : decode b_Tc_regionFieldFits 56 = .ok (.aload_n 0, 1) := by decide +kernel
theorem d_Tc_regionFieldFits_57 : decode b_Tc_regionFieldFits 57 = .ok (.aload_n 0, 1) := by decide +kernel
theorem d_Tc_regionFieldFits_58 : decode b_Tc_regionFieldFits 58 = .ok (.invokevirtual 69, 3) := by decide +kernel
theorem d_Tc_regionFieldFits_61 : decode b_Tc_regionFieldFits 61 = .ok (.iconst 0, 1) := by decide +kernel
theorem d_Tc_regionFieldFits_62 : decode b_Tc_regionFieldFits 62 = .ok (.invokevirtual 35, 3) := by decide +kernel
theorem d_Tc_regionFieldFits_65 : decode b_Tc_regionFieldFits 65 = .ok (.if_icmp .lt 7, 3) := by decide +kernel
theorem d_Tc_regionFieldFits_68 : decode b_Tc_regionFieldFits 68 = .ok (.iconst 1, 1) := by decide +kernel
theorem d_Tc_regionFieldFits_69 : decode b_Tc_regionFieldFits 69 = .ok (.goto 4, 3) := by decide +kernel
theorem d_Tc_regionFieldFits_72 : decode b_Tc_regionFieldFits 72 = .ok (.iconst 0, 1) := by decide +kernel
theorem d_Tc_regionFieldFits_73 : decode b_Tc_regionFieldFits 73 = .ok (.ireturn, 1) := by decide +kernel
theorem d_Tc_regionFieldFits_74 : decode b_Tc_regionFieldFits 74 = .ok (.iload_n 3, 1) := by decide +kernel
theorem d_Tc_regionFieldFits_75 : decode b_Tc_regionFieldFits 75 = .ok (.ifCond .lt 14, 3) := by decide +kernel
theorem d_Tc_regionFieldFits_78 : decode b_Tc_regionFieldFits 78 = .ok (.iload_n 3, 1) := by decide +kernel
theorem d_Tc_regionFieldFits_79 : decode b_Tc_regionFieldFits 79 = .ok (.bipush 64, 2) := by decide +kernel
theorem d_Tc_regionFieldFits_81 : decode b_Tc_regionFieldFits 81 = .ok (.irem, 1) := by decide +kernel
theorem d_Tc_regionFieldFits_82 : decode b_Tc_regionFieldFits 82 = .ok (.ifCond .ne 7, 3) := by decide +kernel
theorem d_Tc_regionFieldFits_85 : decode b_Tc_regionFieldFits 85 = .ok (.iconst 1, 1) := by decide +kernel
theorem d_Tc_regionFieldFits_86 : decode b_Tc_regionFieldFits 86 = .ok (.goto 4, 3) := by decide +kernel
theorem d_Tc_regionFieldFits_89 : decode b_Tc_regionFieldFits 89 = .ok (.iconst 0, 1) := by decide +kernel
theorem d_Tc_regionFieldFits_90 : decode b_Tc_regionFieldFits 90 = .ok (.ireturn, 1) := by decide +kernel
theorem d_Tc_regionFieldFits_91 : decode b_Tc_regionFieldFits 91 = .ok (.iload_n 3, 1) := by decide +kernel
theorem d_Tc_regionFieldFits_92 : decode b_Tc_regionFieldFits 92 = .ok (.ifCond .ne 7, 3) := by decide +kernel
theorem d_Tc_regionFieldFits_95 : decode b_Tc_regionFieldFits 95 = .ok (.iconst 1, 1) := by decide +kernel
theorem d_Tc_regionFieldFits_96 : decode b_Tc_regionFieldFits 96 = .ok (.goto 4, 3) := by decide +kernel
theorem d_Tc_regionFieldFits_99 : decode b_Tc_regionFieldFits 99 = .ok (.iconst 0, 1) := by decide +kernel
theorem d_Tc_regionFieldFits_100 : decode b_Tc_regionFieldFits 100 = .ok (.ireturn, 1) := by decide +kernel
theorem d_Tc_regionFieldFits_101 : decode b_Tc_regionFieldFits 101 = .ok (.iload_n 3, 1) := by decide +kernel
theorem d_Tc_regionFieldFits_102 : decode b_Tc_regionFieldFits 102 = .ok (.ifCond .lt 21, 3) := by decide +kernel
theorem d_Tc_regionFieldFits_105 : decode b_Tc_regionFieldFits 105 = .ok (.iload_n 3, 1) := by decide +kernel
theorem d_Tc_regionFieldFits_106 : decode b_Tc_regionFieldFits 106 = .ok (.sipush 1024, 3) := by decide +kernel
theorem d_Tc_regionFieldFits_109 : decode b_Tc_regionFieldFits 109 = .ok (.if_icmp .gt 14, 3) := by decide +kernel
theorem d_Tc_regionFieldFits_112 : decode b_Tc_regionFieldFits 112 = .ok (.iload_n 3, 1) := by decide +kernel
theorem d_Tc_regionFieldFits_113 : decode b_Tc_regionFieldFits 113 = .ok (.bipush 64, 2) := by decide +kernel
theorem d_Tc_regionFieldFits_115 : decode b_Tc_regionFieldFits 115 = .ok (.irem, 1) := by decide +kernel
theorem d_Tc_regionFieldFits_116 : decode b_Tc_regionFieldFits 116 = .ok (.ifCond .ne 7, 3) := by decide +kernel
theorem d_Tc_regionFieldFits_119 : decode b_Tc_regionFieldFits 119 = .ok (.iconst 1, 1) := by decide +kernel
theorem d_Tc_regionFieldFits_120 : decode b_Tc_regionFieldFits 120 = .ok (.goto 4, 3) := by decide +kernel
theorem d_Tc_regionFieldFits_123 : decode b_Tc_regionFieldFits 123 = .ok (.iconst 0, 1) := by decide +kernel
theorem d_Tc_regionFieldFits_124 : decode b_Tc_regionFieldFits 124 = .ok (.ireturn, 1) := by decide +kernel
theorem d_Tc_regionFieldFits_125 : decode b_Tc_regionFieldFits 125 = .ok (.aload_n 0, 1) := by decide +kernel
theorem d_Tc_regionFieldFits_126 : decode b_Tc_regionFieldFits 126 = .ok (.iload_n 1, 1) := by decide +kernel
theorem d_Tc_regionFieldFits_127 : decode b_Tc_regionFieldFits 127 = .ok (.iconst 2, 1) := by decide +kernel
theorem d_Tc_regionFieldFits_128 : decode b_Tc_regionFieldFits 128 = .ok (.invokevirtual 82, 3) := by decide +kernel
theorem d_Tc_regionFieldFits_131 : decode b_Tc_regionFieldFits 131 = .ok (.iload_n 3, 1) := by decide +kernel
theorem d_Tc_regionFieldFits_132 : decode b_Tc_regionFieldFits 132 = .ok (.invokestatic 92, 3) := by decide +kernel
theorem d_Tc_regionFieldFits_135 : decode b_Tc_regionFieldFits 135 = .ok (.ifCond .eq 17, 3) := by decide +kernel
theorem d_Tc_regionFieldFits_138 : decode b_Tc_regionFieldFits 138 = .ok (.iload_n 3, 1) := by decide +kernel
theorem d_Tc_regionFieldFits_139 : decode b_Tc_regionFieldFits 139 = .ok (.aload_n 0, 1) := by decide +kernel
theorem d_Tc_regionFieldFits_140 : decode b_Tc_regionFieldFits 140 = .ok (.iload_n 1, 1) := by decide +kernel
theorem d_Tc_regionFieldFits_141 : decode b_Tc_regionFieldFits 141 = .ok (.iconst 4, 1) := by decide +kernel
theorem d_Tc_regionFieldFits_142 : decode b_Tc_regionFieldFits 142 = .ok (.invokevirtual 82, 3) := by decide +kernel
theorem d_Tc_regionFieldFits_145 : decode b_Tc_regionFieldFits 145 = .ok (.if_icmp .lt 7, 3) := by decide +kernel
theorem d_Tc_regionFieldFits_148 : decode b_Tc_regionFieldFits 148 = .ok (.iconst 1, 1) := by decide +kernel
theorem d_Tc_regionFieldFits_149 : decode b_Tc_regionFieldFits 149 = .ok (.goto 4, 3) := by decide +kernel
theorem d_Tc_regionFieldFits_152 : decode b_Tc_regionFieldFits 152 = .ok (.iconst 0, 1) := by decide +kernel
theorem d_Tc_regionFieldFits_153 : decode b_Tc_regionFieldFits 153 = .ok (.ireturn, 1) := by decide +kernel
theorem d_Tc_regionFieldFits_154 : decode b_Tc_regionFieldFits 154 = .ok (.iload_n 3, 1) := by decide +kernel
theorem d_Tc_regionFieldFits_155 : decode b_Tc_regionFieldFits 155 = .ok (.ifCond .lt 13, 3) := by decide +kernel
theorem d_Tc_regionFieldFits_158 : decode b_Tc_regionFieldFits 158 = .ok (.iload_n 3, 1) := by decide +kernel
theorem d_Tc_regionFieldFits_159 : decode b_Tc_regionFieldFits 159 = .ok (.bipush 7, 2) := by decide +kernel
theorem d_Tc_regionFieldFits_161 : decode b_Tc_regionFieldFits 161 = .ok (.if_icmp .gt 7, 3) := by decide +kernel
theorem d_Tc_regionFieldFits_164 : decode b_Tc_regionFieldFits 164 = .ok (.iconst 1, 1) := by decide +kernel
theorem d_Tc_regionFieldFits_165 : decode b_Tc_regionFieldFits 165 = .ok (.goto 4, 3) := by decide +kernel
theorem d_Tc_regionFieldFits_168 : decode b_Tc_regionFieldFits 168 = .ok (.iconst 0, 1) := by decide +kernel
theorem d_Tc_regionFieldFits_169 : decode b_Tc_regionFieldFits 169 = .ok (.ireturn, 1) := by decide +kernel
theorem d_Tc_regionFieldFits_170 : decode b_Tc_regionFieldFits 170 = .ok (.iload_n 3, 1) := by decide +kernel
theorem d_Tc_regionFieldFits_171 : decode b_Tc_regionFieldFits 171 = .ok (.bipush 64, 2) := by decide +kernel
theorem d_Tc_regionFieldFits_173 : decode b_Tc_regionFieldFits 173 = .ok (.if_icmp .ne 7, 3) := by decide +kernel
theorem d_Tc_regionFieldFits_176 : decode b_Tc_regionFieldFits 176 = .ok (.iconst 1, 1) := by decide +kernel
theorem d_Tc_regionFieldFits_177 : decode b_Tc_regionFieldFits 177 = .ok (.goto 4, 3) := by decide +kernel
theorem d_Tc_regionFieldFits_180 : decode b_Tc_regionFieldFits 180 = .ok (.iconst 0, 1) := by decide +kernel
theorem d_Tc_regionFieldFits_181 : decode b_Tc_regionFieldFits 181 = .ok (.ireturn, 1) := by decide +kernel
theorem d_Tc_bytesPass_0 : decode b_Tc_bytesPass 0 = .ok (.aload_n 0, 1) := by decide +kernel
theorem d_Tc_bytesPass_1 : decode b_Tc_bytesPass 1 = .ok (.iload_n 1, 1) := by decide +kernel
theorem d_Tc_bytesPass_2 : decode b_Tc_bytesPass 2 = .ok (.iconst 1, 1) := by decide +kernel
theorem d_Tc_bytesPass_3 : decode b_Tc_bytesPass 3 = .ok (.invokevirtual 82, 3) := by decide +kernel
theorem d_Tc_bytesPass_6 : decode b_Tc_bytesPass 6 = .ok (.istore_n 2, 1) := by decide +kernel
theorem d_Tc_bytesPass_7 : decode b_Tc_bytesPass 7 = .ok (.aload_n 0, 1) := by decide +kernel
theorem d_Tc_bytesPass_8 : decode b_Tc_bytesPass 8 = .ok (.iload_n 1, 1) := by decide +kernel
theorem d_Tc_bytesPass_9 : decode b_Tc_bytesPass 9 = .ok (.iconst 4, 1) := by decide +kernel
theorem d_Tc_bytesPass_10 : decode b_Tc_bytesPass 10 = .ok (.invokevirtual 82, 3) := by decide +kernel
theorem d_Tc_bytesPass_13 : decode b_Tc_bytesPass 13 = .ok (.istore_n 3, 1) := by decide +kernel
theorem d_Tc_bytesPass_14 : decode b_Tc_bytesPass 14 = .ok (.iload_n 2, 1) := by decide +kernel
theorem d_Tc_bytesPass_15 : decode b_Tc_bytesPass 15 = .ok (.aload_n 0, 1) := by decide +kernel
theorem d_Tc_bytesPass_16 : decode b_Tc_bytesPass 16 = .ok (.getfield 9, 3) := by decide +kernel
theorem d_Tc_bytesPass_19 : decode b_Tc_bytesPass 19 = .ok (.invokevirtual 51, 3) := by decide +kernel
theorem d_Tc_bytesPass_22 : decode b_Tc_bytesPass 22 = .ok (.if_icmp .gt 16, 3) := by decide +kernel
theorem d_Tc_bytesPass_25 : decode b_Tc_bytesPass 25 = .ok (.iload_n 3, 1) := by decide +kernel
theorem d_Tc_bytesPass_26 : decode b_Tc_bytesPass 26 = .ok (.aload_n 0, 1) := by decide +kernel
theorem d_Tc_bytesPass_27 : decode b_Tc_bytesPass 27 = .ok (.getfield 9, 3) := by decide +kernel
theorem d_Tc_bytesPass_30 : decode b_Tc_bytesPass 30 = .ok (.invokevirtual 51, 3) := by decide +kernel
theorem d_Tc_bytesPass_33 : decode b_Tc_bytesPass 33 = .ok (.iload_n 2, 1) := by decide +kernel
theorem d_Tc_bytesPass_34 : decode b_Tc_bytesPass 34 = .ok (.isub, 1) := by decide +kernel
theorem d_Tc_bytesPass_35 : decode b_Tc_bytesPass 35 = .ok (.if_icmp .le 15, 3) := by decide +kernel
theorem d_Tc_bytesPass_38 : decode b_Tc_bytesPass 38 = .ok (.aload_n 0, 1) := by decide +kernel
theorem d_Tc_bytesPass_39 : decode b_Tc_bytesPass 39 = .ok (.iconst 1, 1) := by decide +kernel
theorem d_Tc_bytesPass_40 : decode b_Tc_bytesPass 40 = .ok (.aload_n 0, 1) := by decide +kernel
theorem d_Tc_bytesPass_41 : decode b_Tc_bytesPass 41 = .ok (.iload_n 1, 1) := by decide +kernel
theorem d_Tc_bytesPass_42 : decode b_Tc_bytesPass 42 = .ok (.iconst 1, 1) := by decide +kernel
theorem d_Tc_bytesPass_43 : decode b_Tc_bytesPass 43 = .ok (.invokevirtual 35, 3) := by decide +kernel
theorem d_Tc_bytesPass_46 : decode b_Tc_bytesPass 46 = .ok (.invokevirtual 55, 3) := by decide +kernel
theorem d_Tc_bytesPass_49 : decode b_Tc_bytesPass 49 = .ok (.ireturn, 1) := by decide +kernel
theorem d_Tc_bytesPass_50 : decode b_Tc_bytesPass 50 = .ok (.iconst 0, 1) := by decide +kernel
theorem d_Tc_bytesPass_51 : decode b_Tc_bytesPass 51 = .ok (.istore 4, 2) := by decide +kernel
theorem d_Tc_bytesPass_53 : decode b_Tc_bytesPass 53 = .ok (.iload 4, 2) := by decide +kernel
theorem d_Tc_bytesPass_55 : decode b_Tc_bytesPass 55 = .ok (.iload_n 1, 1) := by decide +kernel
theorem d_Tc_bytesPass_56 : decode b_Tc_bytesPass 56 = .ok (.if_icmp .ge 43, 3) := by decide +kernel
theorem d_Tc_bytesPass_59 : decode b_Tc_bytesPass 59 = .ok (.iload_n 2, 1) := by decide +kernel
theorem d_Tc_bytesPass_60 : decode b_Tc_bytesPass 60 = .ok (.iload_n 3, 1) := by decide +kernel
theorem d_Tc_bytesPass_61 : decode b_Tc_bytesPass 61 = .ok (.aload_n 0, 1) := by decide +kernel
theorem d_Tc_bytesPass_62 : decode b_Tc_bytesPass 62 = .ok (.iload 4, 2) := by decide +kernel
theorem d_Tc_bytesPass_64 : decode b_Tc_bytesPass 64 = .ok (.iconst 1, 1) := by decide +kernel
theorem d_Tc_bytesPass_65 : decode b_Tc_bytesPass 65 = .ok (.invokevirtual 82, 3) := by decide +kernel
theorem d_Tc_bytesPass_68 : decode b_Tc_bytesPass 68 = .ok (.aload_n 0, 1) := by decide +kernel
theorem d_Tc_bytesPass_69 : decode b_Tc_bytesPass 69 = .ok (.iload 4, 2) := by decide +kernel
theorem d_Tc_bytesPass_71 : decode b_Tc_bytesPass 71 = .ok (.iconst 4, 1) := by decide +kernel
theorem d_Tc_bytesPass_72 : decode b_Tc_bytesPass 72 = .ok (.invokevirtual 82, 3) := by decide +kernel
theorem d_Tc_bytesPass_75 : decode b_Tc_bytesPass 75 = .ok (.invokestatic 97, 3) := by decide +kernel
theorem d_Tc_bytesPass_78 : decode b_Tc_bytesPass 78 = .ok (.ifCond .eq 15, 3) := by decide +kernel
theorem d_Tc_bytesPass_81 : decode b_Tc_bytesPass 81 = .ok (.aload_n 0, 1) := by decide +kernel
theorem d_Tc_bytesPass_82 : decode b_Tc_bytesPass 82 = .ok (.iconst 4, 1) := by decide +kernel
theorem d_Tc_bytesPass_83 : decode b_Tc_bytesPass 83 = .ok (.aload_n 0, 1) := by decide +kernel
theorem d_Tc_bytesPass_84 : decode b_Tc_bytesPass 84 = .ok (.iload_n 1, 1) := by decide +kernel
theorem d_Tc_bytesPass_85 : decode b_Tc_bytesPass 85 = .ok (.iconst 1, 1) := by decide +kernel
theorem d_Tc_bytesPass_86 : decode b_Tc_bytesPass 86 = .ok (.invokevirtual 35, 3) := by decide +kernel
theorem d_Tc_bytesPass_89 : decode b_Tc_bytesPass 89 = .ok (.invokevirtual 55, 3) := by decide +kernel
theorem d_Tc_bytesPass_92 : decode b_Tc_bytesPass 92 = .ok (.ireturn, 1) := by decide +kernel
theorem d_Tc_bytesPass_93 : decode b_Tc_bytesPass 93 = .ok (.iinc 4 1, 3) := by decide +kernel
theorem d_Tc_bytesPass_96 : decode b_Tc_bytesPass 96 = .ok (.goto (-43), 3) := by decide +kernel
theorem d_Tc_bytesPass_99 : decode b_Tc_bytesPass 99 = .ok (.iconst 1, 1) := by decide +kernel
theorem d_Tc_bytesPass_100 : decode b_Tc_bytesPass 100 = .ok (.ireturn, 1) := by decide +kernel
theorem d_Tc_addressesPass_0 : decode b_Tc_addressesPass 0 = .ok (.aload_n 0, 1) := by decide +kernel
theorem d_Tc_addressesPass_1 : decode b_Tc_addressesPass 1 = .ok (.iload_n 1, 1) := by decide +kernel
theorem d_Tc_addressesPass_2 : decode b_Tc_addressesPass 2 = .ok (.iconst 2, 1) := by decide +kernel
theorem d_Tc_addressesPass_3 : decode b_Tc_addressesPass 3 = .ok (.invokevirtual 82, 3) := by decide +kernel
theorem d_Tc_addressesPass_6 : decode b_Tc_addressesPass 6 = .ok (.istore_n 2, 1) := by decide +kernel
theorem d_Tc_addressesPass_7 : decode b_Tc_addressesPass 7 = .ok (.aload_n 0, 1) := by decide +kernel
theorem d_Tc_addressesPass_8 : decode b_Tc_addressesPass 8 = .ok (.iload_n 1, 1) := by decide +kernel
theorem d_Tc_addressesPass_9 : decode b_Tc_addressesPass 9 = .ok (.iconst 5, 1) := by decide +kernel
theorem d_Tc_addressesPass_10 : decode b_Tc_addressesPass 10 = .ok (.invokevirtual 82, 3) := by decide +kernel
theorem d_Tc_addressesPass_13 : decode b_Tc_addressesPass 13 = .ok (.istore_n 3, 1) := by decide +kernel
theorem d_Tc_addressesPass_14 : decode b_Tc_addressesPass 14 = .ok (.iconst 1, 1) := by decide +kernel
theorem d_Tc_addressesPass_15 : decode b_Tc_addressesPass 15 = .ok (.istore 4, 2) := by decide +kernel
theorem d_Tc_addressesPass_17 : decode b_Tc_addressesPass 17 = .ok (.iload 4, 2) := by decide +kernel
theorem d_Tc_addressesPass_19 : decode b_Tc_addressesPass 19 = .ok (.iload_n 1, 1) := by decide +kernel
theorem d_Tc_addressesPass_20 : decode b_Tc_addressesPass 20 = .ok (.if_icmp .ge 43, 3) := by decide +kernel
theorem d_Tc_addressesPass_23 : decode b_Tc_addressesPass 23 = .ok (.iload_n 2, 1) := by decide +kernel
theorem d_Tc_addressesPass_24 : decode b_Tc_addressesPass 24 = .ok (.iload_n 3, 1) := by decide +kernel
theorem d_Tc_addressesPass_25 : decode b_Tc_addressesPass 25 = .ok (.aload_n 0, 1) := by decide +kernel
theorem d_Tc_addressesPass_26 : decode b_Tc_addressesPass 26 = .ok (.iload 4, 2) := by decide +kernel
theorem d_Tc_addressesPass_28 : decode b_Tc_addressesPass 28 = .ok (.iconst 2, 1) := by decide +kernel
theorem d_Tc_addressesPass_29 : decode b_Tc_addressesPass 29 = .ok (.invokevirtual 82, 3) := by decide +kernel
theorem d_Tc_addressesPass_32 : decode b_Tc_addressesPass 32 = .ok (.aload_n 0, 1) := by decide +kernel
theorem d_Tc_addressesPass_33 : decode b_Tc_addressesPass 33 = .ok (.iload 4, 2) := by decide +kernel
theorem d_Tc_addressesPass_35 : decode b_Tc_addressesPass 35 = .ok (.iconst 5, 1) := by decide +kernel
theorem d_Tc_addressesPass_36 : decode b_Tc_addressesPass 36 = .ok (.invokevirtual 82, 3) := by decide +kernel
theorem d_Tc_addressesPass_39 : decode b_Tc_addressesPass 39 = .ok (.invokestatic 97, 3) := by decide +kernel
theorem d_Tc_addressesPass_42 : decode b_Tc_addressesPass 42 = .ok (.ifCond .eq 15, 3) := by decide +kernel
theorem d_Tc_addressesPass_45 : decode b_Tc_addressesPass 45 = .ok (.aload_n 0, 1) := by decide +kernel
theorem d_Tc_addressesPass_46 : decode b_Tc_addressesPass 46 = .ok (.iconst 5, 1) := by decide +kernel
theorem d_Tc_addressesPass_47 : decode b_Tc_addressesPass 47 = .ok (.aload_n 0, 1) := by decide +kernel
theorem d_Tc_addressesPass_48 : decode b_Tc_addressesPass 48 = .ok (.iload_n 1, 1) := by decide +kernel
theorem d_Tc_addressesPass_49 : decode b_Tc_addressesPass 49 = .ok (.iconst 2, 1) := by decide +kernel
theorem d_Tc_addressesPass_50 : decode b_Tc_addressesPass 50 = .ok (.invokevirtual 35, 3) := by decide +kernel
theorem d_Tc_addressesPass_53 : decode b_Tc_addressesPass 53 = .ok (.invokevirtual 55, 3) := by decide +kernel
theorem d_Tc_addressesPass_56 : decode b_Tc_addressesPass 56 = .ok (.ireturn, 1) := by decide +kernel
theorem d_Tc_addressesPass_57 : decode b_Tc_addressesPass 57 = .ok (.iinc 4 1, 3) := by decide +kernel
theorem d_Tc_addressesPass_60 : decode b_Tc_addressesPass 60 = .ok (.goto (-43), 3) := by decide +kernel
theorem d_Tc_addressesPass_63 : decode b_Tc_addressesPass 63 = .ok (.iconst 1, 1) := by decide +kernel
theorem d_Tc_addressesPass_64 : decode b_Tc_addressesPass 64 = .ok (.ireturn, 1) := by decide +kernel
theorem d_Tc_notesPass_0 : decode b_Tc_notesPass 0 = .ok (.aload_n 0, 1) := by decide +kernel
theorem d_Tc_notesPass_1 : decode b_Tc_notesPass 1 = .ok (.iconst 0, 1) := by decide +kernel
theorem d_Tc_notesPass_2 : decode b_Tc_notesPass 2 = .ok (.iconst 1, 1) := by decide +kernel
theorem d_Tc_notesPass_3 : decode b_Tc_notesPass 3 = .ok (.invokevirtual 82, 3) := by decide +kernel
theorem d_Tc_notesPass_6 : decode b_Tc_notesPass 6 = .ok (.istore_n 1, 1) := by decide +kernel
theorem d_Tc_notesPass_7 : decode b_Tc_notesPass 7 = .ok (.iload_n 1, 1) := by decide +kernel
theorem d_Tc_notesPass_8 : decode b_Tc_notesPass 8 = .ok (.aload_n 0, 1) := by decide +kernel
theorem d_Tc_notesPass_9 : decode b_Tc_notesPass 9 = .ok (.iconst 0, 1) := by decide +kernel
theorem d_Tc_notesPass_10 : decode b_Tc_notesPass 10 = .ok (.iconst 4, 1) := by decide +kernel
theorem d_Tc_notesPass_11 : decode b_Tc_notesPass 11 = .ok (.invokevirtual 82, 3) := by decide +kernel
theorem d_Tc_notesPass_14 : decode b_Tc_notesPass 14 = .ok (.iadd, 1) := by decide +kernel
theorem d_Tc_notesPass_15 : decode b_Tc_notesPass 15 = .ok (.istore_n 2, 1) := by decide +kernel
theorem d_Tc_notesPass_16 : decode b_Tc_notesPass 16 = .ok (.iconst 0, 1) := by decide +kernel
theorem d_Tc_notesPass_17 : decode b_Tc_notesPass 17 = .ok (.istore_n 3, 1) := by decide +kernel
theorem d_Tc_notesPass_18 : decode b_Tc_notesPass 18 = .ok (.iload_n 3, 1) := by decide +kernel
theorem d_Tc_notesPass_19 : decode b_Tc_notesPass 19 = .ok (.sipush 8192, 3) := by decide +kernel
theorem d_Tc_notesPass_22 : decode b_Tc_notesPass 22 = .ok (.if_icmp .ge 48, 3) := by decide +kernel
theorem d_Tc_notesPass_25 : decode b_Tc_notesPass 25 = .ok (.iload_n 1, 1) := by decide +kernel
theorem d_Tc_notesPass_26 : decode b_Tc_notesPass 26 = .ok (.iload_n 2, 1) := by decide +kernel
theorem d_Tc_notesPass_27 : decode b_Tc_notesPass 27 = .ok (.if_icmp .ge 43, 3) := by decide +kernel
theorem d_Tc_notesPass_30 : decode b_Tc_notesPass 30 = .ok (.aload_n 0, 1) := by decide +kernel
theorem d_Tc_notesPass_31 : decode b_Tc_notesPass 31 = .ok (.iload_n 1, 1) := by decide +kernel
theorem d_Tc_notesPass_32 : decode b_Tc_notesPass 32 = .ok (.iload_n 2, 1) := by decide +kernel
theorem d_Tc_notesPass_33 : decode b_Tc_notesPass 33 = .ok (.invokevirtual 101, 3) := by decide +kernel
theorem d_Tc_notesPass_36 : decode b_Tc_notesPass 36 = .ok (.ifCond .eq 11, 3) := by decide +kernel
theorem d_Tc_notesPass_39 : decode b_Tc_notesPass 39 = .ok (.aload_n 0, 1) := by decide +kernel
theorem d_Tc_notesPass_40 : decode b_Tc_notesPass 40 = .ok (.iload_n 1, 1) := by decide +kernel
theorem d_Tc_notesPass_41 : decode b_Tc_notesPass 41 = .ok (.invokevirtual 104, 3) := by decide +kernel
theorem d_Tc_notesPass_44 : decode b_Tc_notesPass 44 = .ok (.ifCond .ne 5, 3) := by decide +kernel
theorem d_Tc_notesPass_47 : decode b_Tc_notesPass 47 = .ok (.iconst 0, 1) := by decide +kernel
theorem d_Tc_notesPass_48 : decode b_Tc_notesPass 48 = .ok (.ireturn, 1) := by decide +kernel
theorem d_Tc_notesPass_49 : decode b_Tc_notesPass 49 = .ok (.iload_n 1, 1) := by decide +kernel
theorem d_Tc_notesPass_50 : decode b_Tc_notesPass 50 = .ok (.bipush 20, 2) := by decide +kernel
theorem d_Tc_notesPass_52 : decode b_Tc_notesPass 52 = .ok (.aload_n 0, 1) := by decide +kernel
theorem d_Tc_notesPass_53 : decode b_Tc_notesPass 53 = .ok (.aload_n 0, 1) := by decide +kernel
theorem d_Tc_notesPass_54 : decode b_Tc_notesPass 54 = .ok (.iload_n 1, 1) := by decide +kernel
theorem d_Tc_notesPass_55 : decode b_Tc_notesPass 55 = .ok (.invokevirtual 107, 3) := by decide +kernel
theorem d_Tc_notesPass_58 : decode b_Tc_notesPass 58 = .ok (.invokevirtual 111, 3) := by decide +kernel
theorem d_Tc_notesPass_61 : decode b_Tc_notesPass 61 = .ok (.iadd, 1) := by decide +kernel
theorem d_Tc_notesPass_62 : decode b_Tc_notesPass 62 = .ok (.iadd, 1) := by decide +kernel
theorem d_Tc_notesPass_63 : decode b_Tc_notesPass 63 = .ok (.istore_n 1, 1) := by decide +kernel
theorem d_Tc_notesPass_64 : decode b_Tc_notesPass 64 = .ok (.iinc 3 1, 3) := by decide +kernel
theorem d_Tc_notesPass_67 : decode b_Tc_notesPass 67 = .ok (.goto (-49), 3) := by decide +kernel
theorem d_Tc_notesPass_70 : decode b_Tc_notesPass 70 = .ok (.iconst 1, 1) := by decide +kernel
theorem d_Tc_notesPass_71 : decode b_Tc_notesPass 71 = .ok (.ireturn, 1) := by decide +kernel
theorem d_Tc_noteSize_0 : decode b_Tc_noteSize 0 = .ok (.aload_n 0, 1) := by decide +kernel
theorem d_Tc_noteSize_1 : decode b_Tc_noteSize 1 = .ok (.getfield 9, 3) := by decide +kernel
theorem d_Tc_noteSize_4 : decode b_Tc_noteSize 4 = .ok (.iload_n 1, 1) := by decide +kernel
theorem d_Tc_noteSize_5 : decode b_Tc_noteSize 5 = .ok (.iconst 4, 1) := by decide +kernel
theorem d_Tc_noteSize_6 : decode b_Tc_noteSize 6 = .ok (.iadd, 1) := by decide +kernel
theorem d_Tc_noteSize_7 : decode b_Tc_noteSize 7 = .ok (.iconst 4, 1) := by decide +kernel
theorem d_Tc_noteSize_8 : decode b_Tc_noteSize 8 = .ok (.invokevirtual 29, 3) := by decide +kernel
theorem d_Tc_noteSize_11 : decode b_Tc_noteSize 11 = .ok (.ireturn, 1) := by decide +kernel
theorem d_Tc_padded_0 : decode b_Tc_padded 0 = .ok (.iload_n 1, 1) := by decide +kernel
theorem d_Tc_padded_1 : decode b_Tc_padded 1 = .ok (.iconst 3, 1) := by decide +kernel
theorem d_Tc_padded_2 : decode b_Tc_padded 2 = .ok (.iadd, 1) := by decide +kernel
theorem d_Tc_padded_3 : decode b_Tc_padded 3 = .ok (.iconst 4, 1) := by decide +kernel
theorem d_Tc_padded_4 : decode b_Tc_padded 4 = .ok (.idiv, 1) := by decide +kernel
theorem d_Tc_padded_5 : decode b_Tc_padded 5 = .ok (.iconst 4, 1) := by decide +kernel
theorem d_Tc_padded_6 : decode b_Tc_padded 6 = .ok (.imul, 1) := by decide +kernel
theorem d_Tc_padded_7 : decode b_Tc_padded 7 = .ok (.ireturn, 1) := by decide +kernel
theorem d_Tc_noteHeadPasses_0 : decode b_Tc_noteHeadPasses 0 = .ok (.iload_n 2, 1) := by decide +kernel
theorem d_Tc_noteHeadPasses_1 : decode b_Tc_noteHeadPasses 1 = .ok (.iload_n 1, 1) := by decide +kernel
theorem d_Tc_noteHeadPasses_2 : decode b_Tc_noteHeadPasses 2 = .ok (.isub, 1) := by decide +kernel
theorem d_Tc_noteHeadPasses_3 : decode b_Tc_noteHeadPasses 3 = .ok (.bipush 20, 2) := by decide +kernel
theorem d_Tc_noteHeadPasses_5 : decode b_Tc_noteHeadPasses 5 = .ok (.isub, 1) := by decide +kernel
theorem d_Tc_noteHeadPasses_6 : decode b_Tc_noteHeadPasses 6 = .ok (.istore_n 3, 1) := by decide +kernel
theorem d_Tc_noteHeadPasses_7 : decode b_Tc_noteHeadPasses 7 = .ok (.iload_n 3, 1) := by decide +kernel
theorem d_Tc_noteHeadPasses_8 : decode b_Tc_noteHeadPasses 8 = .ok (.ifCond .lt 16, 3) := by decide +kernel
theorem d_Tc_noteHeadPasses_11 : decode b_Tc_noteHeadPasses 11 = .ok (.aload_n 0, 1) := by decide +kernel
theorem d_Tc_noteHeadPasses_12 : decode b_Tc_noteHeadPasses 12 = .ok (.getfield 9, 3) := by decide +kernel
theorem d_Tc_noteHeadPasses_15 : decode b_Tc_noteHeadPasses 15 = .ok (.iload_n 1, 1) := by decide +kernel
theorem d_Tc_noteHeadPasses_16 : decode b_Tc_noteHeadPasses 16 = .ok (.iconst 4, 1) := by decide +kernel
theorem d_Tc_noteHeadPasses_17 : decode b_Tc_noteHeadPasses 17 = .ok (.invokevirtual 29, 3) := by decide +kernel
theorem d_Tc_noteHeadPasses_20 : decode b_Tc_noteHeadPasses 20 = .ok (.iconst 5, 1) := by decide +kernel
theorem d_Tc_noteHeadPasses_21 : decode b_Tc_noteHeadPasses 21 = .ok (.if_icmp .eq 11, 3) := by decide +kernel
theorem d_Tc_noteHeadPasses_24 : decode b_Tc_noteHeadPasses 24 = .ok (.aload_n 0, 1) := by decide +kernel
theorem d_Tc_noteHeadPasses_25 : decode b_Tc_noteHeadPasses 25 = .ok (.bipush 6, 2) := by decide +kernel
theorem d_Tc_noteHeadPasses_27 : decode b_Tc_noteHeadPasses 27 = .ok (.iload_n 1, 1) := by decide +kernel
theorem d_Tc_noteHeadPasses_28 : decode b_Tc_noteHeadPasses 28 = .ok (.invokevirtual 55, 3) := by decide +kernel
theorem d_Tc_noteHeadPasses_31 : decode b_Tc_noteHeadPasses 31 = .ok (.ireturn, 1) := by decide +kernel
theorem d_Tc_noteHeadPasses_32 : decode b_Tc_noteHeadPasses 32 = .ok (.iconst 0, 1) := by decide +kernel
theorem d_Tc_noteHeadPasses_33 : decode b_Tc_noteHeadPasses 33 = .ok (.istore 4, 2) := by decide +kernel
theorem d_Tc_noteHeadPasses_35 : decode b_Tc_noteHeadPasses 35 = .ok (.iload 4, 2) := by decide +kernel
theorem d_Tc_noteHeadPasses_37 : decode b_Tc_noteHeadPasses 37 = .ok (.getstatic 114, 3) := by decide +kernel
theorem d_Tc_noteHeadPasses_40 : decode b_Tc_noteHeadPasses 40 = .ok (.arraylength, 1) := by decide +kernel
theorem d_Tc_noteHeadPasses_41 : decode b_Tc_noteHeadPasses 41 = .ok (.if_icmp .ge 46, 3) := by decide +kernel
theorem d_Tc_noteHeadPasses_44 : decode b_Tc_noteHeadPasses 44 = .ok (.aload_n 0, 1) := by decide +kernel
theorem d_Tc_noteHeadPasses_45 : decode b_Tc_noteHeadPasses 45 = .ok (.getfield 9, 3) := by decide +kernel
theorem d_Tc_noteHeadPasses_48 : decode b_Tc_noteHeadPasses 48 = .ok (.iload_n 1, 1) := by decide +kernel
theorem d_Tc_noteHeadPasses_49 : decode b_Tc_noteHeadPasses 49 = .ok (.bipush 12, 2) := by decide +kernel
theorem d_Tc_noteHeadPasses_51 : decode b_Tc_noteHeadPasses 51 = .ok (.iadd, 1) := by decide +kernel
theorem d_Tc_noteHeadPasses_52 : decode b_Tc_noteHeadPasses 52 = .ok (.iload 4, 2) := by decide +kernel
theorem d_Tc_noteHeadPasses_54 : decode b_Tc_noteHeadPasses 54 = .ok (.iadd, 1) := by decide +kernel
theorem d_Tc_noteHeadPasses_55 : decode b_Tc_noteHeadPasses 55 = .ok (.invokevirtual 117, 3) := by decide +kernel
theorem d_Tc_noteHeadPasses_58 : decode b_Tc_noteHeadPasses 58 = .ok (.getstatic 114, 3) := by decide +kernel
theorem d_Tc_noteHeadPasses_61 : decode b_Tc_noteHeadPasses 61 = .ok (.iload 4, 2) := by decide +kernel
theorem d_Tc_noteHeadPasses_63 : decode b_Tc_noteHeadPasses 63 = .ok (.iaload, 1) := by decide +kernel
theorem d_Tc_noteHeadPasses_64 : decode b_Tc_noteHeadPasses 64 = .ok (.if_icmp .eq 17, 3) := by decide +kernel
theorem d_Tc_noteHeadPasses_67 : decode b_Tc_noteHeadPasses 67 = .ok (.aload_n 0, 1) := by decide +kernel
theorem d_Tc_noteHeadPasses_68 : decode b_Tc_noteHeadPasses 68 = .ok (.bipush 6, 2) := by decide +kernel
theorem d_Tc_noteHeadPasses_70 : decode b_Tc_noteHeadPasses 70 = .ok (.iload_n 1, 1) := by decide +kernel
theorem d_Tc_noteHeadPasses_71 : decode b_Tc_noteHeadPasses 71 = .ok (.bipush 12, 2) := by decide +kernel
theorem d_Tc_noteHeadPasses_73 : decode b_Tc_noteHeadPasses 73 = .ok (.iadd, 1) := by decide +kernel
theorem d_Tc_noteHeadPasses_74 : decode b_Tc_noteHeadPasses 74 = .ok (.iload 4, 2) := by decide +kernel
theorem d_Tc_noteHeadPasses_76 : decode b_Tc_noteHeadPasses 76 = .ok (.iadd, 1) := by decide +kernel
theorem d_Tc_noteHeadPasses_77 : decode b_Tc_noteHeadPasses 77 = .ok (.invokevirtual 55, 3) := by decide +kernel
theorem d_Tc_noteHeadPasses_80 : decode b_Tc_noteHeadPasses 80 = .ok (.ireturn, 1) := by decide +kernel
theorem d_Tc_noteHeadPasses_81 : decode b_Tc_noteHeadPasses 81 = .ok (.iinc 4 1, 3) := by decide +kernel
theorem d_Tc_noteHeadPasses_84 : decode b_Tc_noteHeadPasses 84 = .ok (.goto (-49), 3) := by decide +kernel
theorem d_Tc_noteHeadPasses_87 : decode b_Tc_noteHeadPasses 87 = .ok (.aload_n 0, 1) := by decide +kernel
theorem d_Tc_noteHeadPasses_88 : decode b_Tc_noteHeadPasses 88 = .ok (.iload_n 1, 1) := by decide +kernel
theorem d_Tc_noteHeadPasses_89 : decode b_Tc_noteHeadPasses 89 = .ok (.invokevirtual 107, 3) := by decide +kernel
theorem d_Tc_noteHeadPasses_92 : decode b_Tc_noteHeadPasses 92 = .ok (.istore 4, 2) := by decide +kernel
theorem d_Tc_noteHeadPasses_94 : decode b_Tc_noteHeadPasses 94 = .ok (.iload 4, 2) := by decide +kernel
theorem d_Tc_noteHeadPasses_96 : decode b_Tc_noteHeadPasses 96 = .ok (.ifCond .lt 19, 3) := by decide +kernel
theorem d_Tc_noteHeadPasses_99 : decode b_Tc_noteHeadPasses 99 = .ok (.iload 4, 2) := by decide +kernel
theorem d_Tc_noteHeadPasses_101 : decode b_Tc_noteHeadPasses 101 = .ok (.iload_n 3, 1) := by decide +kernel
theorem d_Tc_noteHeadPasses_102 : decode b_Tc_noteHeadPasses 102 = .ok (.if_icmp .gt 13, 3) := by decide +kernel
theorem d_Tc_noteHeadPasses_105 : decode b_Tc_noteHeadPasses 105 = .ok (.aload_n 0, 1) := by decide +kernel
theorem d_Tc_noteHeadPasses_106 : decode b_Tc_noteHeadPasses 106 = .ok (.iload 4, 2) := by decide +kernel
theorem d_Tc_noteHeadPasses_108 : decode b_Tc_noteHeadPasses 108 = .ok (.invokevirtual 111, 3) := by decide +kernel
theorem d_Tc_noteHeadPasses_111 : decode b_Tc_noteHeadPasses 111 = .ok (.iload_n 3, 1) := by decide +kernel
theorem d_Tc_noteHeadPasses_112 : decode b_Tc_noteHeadPasses 112 = .ok (.if_icmp .le 13, 3) := by decide +kernel
theorem d_Tc_noteHeadPasses_115 : decode b_Tc_noteHeadPasses 115 = .ok (.aload_n 0, 1) := by decide +kernel
theorem d_Tc_noteHeadPasses_116 : decode b_Tc_noteHeadPasses 116 = .ok (.bipush 6, 2) := by decide +kernel
theorem d_Tc_noteHeadPasses_118 : decode b_Tc_noteHeadPasses 118 = .ok (.iload_n 1, 1) := by decide +kernel
theorem d_Tc_noteHeadPasses_119 : decode b_Tc_noteHeadPasses 119 = .ok (.iconst 4, 1) := by decide +kernel
theorem d_Tc_noteHeadPasses_120 : decode b_Tc_noteHeadPasses 120 = .ok (.iadd, 1) := by decide +kernel
theorem d_Tc_noteHeadPasses_121 : decode b_Tc_noteHeadPasses 121 = .ok (.invokevirtual 55, 3) := by decide +kernel
theorem d_Tc_noteHeadPasses_124 : decode b_Tc_noteHeadPasses 124 = .ok (.ireturn, 1) := by decide +kernel
theorem d_Tc_noteHeadPasses_125 : decode b_Tc_noteHeadPasses 125 = .ok (.iconst 1, 1) := by decide +kernel
theorem d_Tc_noteHeadPasses_126 : decode b_Tc_noteHeadPasses 126 = .ok (.ireturn, 1) := by decide +kernel
theorem d_Tc_threadPasses_0 : decode b_Tc_threadPasses 0 = .ok (.aload_n 0, 1) := by decide +kernel
theorem d_Tc_threadPasses_1 : decode b_Tc_threadPasses 1 = .ok (.getfield 9, 3) := by decide +kernel
theorem d_Tc_threadPasses_4 : decode b_Tc_threadPasses 4 = .ok (.iload_n 1, 1) := by decide +kernel
theorem d_Tc_threadPasses_5 : decode b_Tc_threadPasses 5 = .ok (.bipush 8, 2) := by decide +kernel
theorem d_Tc_threadPasses_7 : decode b_Tc_threadPasses 7 = .ok (.iadd, 1) := by decide +kernel
theorem d_Tc_threadPasses_8 : decode b_Tc_threadPasses 8 = .ok (.iconst 4, 1) := by decide +kernel
theorem d_Tc_threadPasses_9 : decode b_Tc_threadPasses 9 = .ok (.invokevirtual 29, 3) := by decide +kernel
theorem d_Tc_threadPasses_12 : decode b_Tc_threadPasses 12 = .ok (.iconst 1, 1) := by decide +kernel
theorem d_Tc_threadPasses_13 : decode b_Tc_threadPasses 13 = .ok (.if_icmp .eq 5, 3) := by decide +kernel
theorem d_Tc_threadPasses_16 : decode b_Tc_threadPasses 16 = .ok (.iconst 1, 1) := by decide +kernel
theorem d_Tc_threadPasses_17 : decode b_Tc_threadPasses 17 = .ok (.ireturn, 1) := by decide +kernel
theorem d_Tc_threadPasses_18 : decode b_Tc_threadPasses 18 = .ok (.aload_n 0, 1) := by decide +kernel
theorem d_Tc_threadPasses_19 : decode b_Tc_threadPasses 19 = .ok (.iload_n 1, 1) := by decide +kernel
theorem d_Tc_threadPasses_20 : decode b_Tc_threadPasses 20 = .ok (.invokevirtual 107, 3) := by decide +kernel
theorem d_Tc_threadPasses_23 : decode b_Tc_threadPasses 23 = .ok (.bipush 36, 2) := by decide +kernel
theorem d_Tc_threadPasses_25 : decode b_Tc_threadPasses 25 = .ok (.if_icmp .eq 13, 3) := by decide +kernel
theorem d_Tc_threadPasses_28 : decode b_Tc_threadPasses 28 = .ok (.aload_n 0, 1) := by decide +kernel
theorem d_Tc_threadPasses_29 : decode b_Tc_threadPasses 29 = .ok (.bipush 6, 2) := by decide +kernel
theorem d_Tc_threadPasses_31 : decode b_Tc_threadPasses 31 = .ok (.iload_n 1, 1) := by decide +kernel
theorem d_Tc_threadPasses_32 : decode b_Tc_threadPasses 32 = .ok (.iconst 4, 1) := by decide +kernel
theorem d_Tc_threadPasses_33 : decode b_Tc_threadPasses 33 = .ok (.iadd, 1) := by decide +kernel
theorem d_Tc_threadPasses_34 : decode b_Tc_threadPasses 34 = .ok (.invokevirtual 55, 3) := by decide +kernel
theorem d_Tc_threadPasses_37 : decode b_Tc_threadPasses 37 = .ok (.ireturn, 1) := by decide +kernel
theorem d_Tc_threadPasses_38 : decode b_Tc_threadPasses 38 = .ok (.iload_n 1, 1) := by decide +kernel
theorem d_Tc_threadPasses_39 : decode b_Tc_threadPasses 39 = .ok (.bipush 20, 2) := by decide +kernel
theorem d_Tc_threadPasses_41 : decode b_Tc_threadPasses 41 = .ok (.iadd, 1) := by decide +kernel
theorem d_Tc_threadPasses_42 : decode b_Tc_threadPasses 42 = .ok (.istore_n 2, 1) := by decide +kernel
theorem d_Tc_threadPasses_43 : decode b_Tc_threadPasses 43 = .ok (.aload_n 0, 1) := by decide +kernel
theorem d_Tc_threadPasses_44 : decode b_Tc_threadPasses 44 = .ok (.getfield 9, 3) := by decide +kernel
theorem d_Tc_threadPasses_47 : decode b_Tc_threadPasses 47 = .ok (.iload_n 2, 1) := by decide +kernel
theorem d_Tc_threadPasses_48 : decode b_Tc_threadPasses 48 = .ok (.iconst 4, 1) := by decide +kernel
theorem d_Tc_threadPasses_49 : decode b_Tc_threadPasses 49 = .ok (.invokevirtual 29, 3) := by decide +kernel
theorem d_Tc_threadPasses_52 : decode b_Tc_threadPasses 52 = .ok (.istore_n 3, 1) := by decide +kernel
theorem d_Tc_threadPasses_53 : decode b_Tc_threadPasses 53 = .ok (.aload_n 0, 1) := by decide +kernel
theorem d_Tc_threadPasses_54 : decode b_Tc_threadPasses 54 = .ok (.getfield 18, 3) := by decide +kernel
theorem d_Tc_threadPasses_57 : decode b_Tc_threadPasses 57 = .ok (.iload_n 3, 1) := by decide +kernel
theorem d_Tc_threadPasses_58 : decode b_Tc_threadPasses 58 = .ok (.invokevirtual 120, 3) := by decide +kernel
theorem d_Tc_threadPasses_61 : decode b_Tc_threadPasses 61 = .ok (.ifCond .eq 11, 3) := by decide +kernel
theorem d_Tc_threadPasses_64 : decode b_Tc_threadPasses 64 = .ok (.aload_n 0, 1) := by decide +kernel
theorem d_Tc_threadPasses_65 : decode b_Tc_threadPasses 65 = .ok (.bipush 6, 2) := by decide +kernel
theorem d_Tc_threadPasses_67 : decode b_Tc_threadPasses 67 = .ok (.iload_n 2, 1) := by decide +kernel
theorem d_Tc_threadPasses_68 : decode b_Tc_threadPasses 68 = .ok (.invokevirtual 55, 3) := by decide +kernel
theorem d_Tc_threadPasses_71 : decode b_Tc_threadPasses 71 = .ok (.ireturn, 1) := by decide +kernel
theorem d_Tc_threadPasses_72 : decode b_Tc_threadPasses 72 = .ok (.aload_n 0, 1) := by decide +kernel
theorem d_Tc_threadPasses_73 : decode b_Tc_threadPasses 73 = .ok (.getfield 18, 3) := by decide +kernel
theorem d_Tc_threadPasses_76 : decode b_Tc_threadPasses 76 = .ok (.iload_n 3, 1) := by decide +kernel
theorem d_Tc_threadPasses_77 : decode b_Tc_threadPasses 77 = .ok (.invokevirtual 123, 3) := by decide +kernel
theorem d_Tc_threadPasses_80 : decode b_Tc_threadPasses 80 = .ok (.istore 4, 2) := by decide +kernel
theorem d_Tc_threadPasses_82 : decode b_Tc_threadPasses 82 = .ok (.iload 4, 2) := by decide +kernel
theorem d_Tc_threadPasses_84 : decode b_Tc_threadPasses 84 = .ok (.iconst (-1), 1) := by decide +kernel
theorem d_Tc_threadPasses_85 : decode b_Tc_threadPasses 85 = .ok (.if_icmp .ne 11, 3) := by decide +kernel
theorem d_Tc_threadPasses_88 : decode b_Tc_threadPasses 88 = .ok (.aload_n 0, 1) := by decide +kernel
theorem d_Tc_threadPasses_89 : decode b_Tc_threadPasses 89 = .ok (.bipush 6, 2) := by decide +kernel
theorem d_Tc_threadPasses_91 : decode b_Tc_threadPasses 91 = .ok (.iload_n 1, 1) := by decide +kernel
theorem d_Tc_threadPasses_92 : decode b_Tc_threadPasses 92 = .ok (.invokevirtual 55, 3) := by decide +kernel
theorem d_Tc_threadPasses_95 : decode b_Tc_threadPasses 95 = .ok (.ireturn, 1) := by decide +kernel
theorem d_Tc_threadPasses_96 : decode b_Tc_threadPasses 96 = .ok (.iconst 0, 1) := by decide +kernel
theorem d_Tc_threadPasses_97 : decode b_Tc_threadPasses 97 = .ok (.istore 5, 2) := by decide +kernel
theorem d_Tc_threadPasses_99 : decode b_Tc_threadPasses 99 = .ok (.iload 5, 2) := by decide +kernel
theorem d_Tc_threadPasses_101 : decode b_Tc_threadPasses 101 = .ok (.bipush 8, 2) := by decide +kernel
theorem d_Tc_threadPasses_103 : decode b_Tc_threadPasses 103 = .ok (.if_icmp .ge 37, 3) := by decide +kernel
theorem d_Tc_threadPasses_106 : decode b_Tc_threadPasses 106 = .ok (.aload_n 0, 1) := by decide +kernel
theorem d_Tc_threadPasses_107 : decode b_Tc_threadPasses 107 = .ok (.getfield 18, 3) := by decide +kernel
theorem d_Tc_threadPasses_110 : decode b_Tc_threadPasses 110 = .ok (.iload 4, 2) := by decide +kernel
theorem d_Tc_threadPasses_112 : decode b_Tc_threadPasses 112 = .ok (.iload 5, 2) := by decide +kernel
theorem d_Tc_threadPasses_114 : decode b_Tc_threadPasses 114 = .ok (.aload_n 0, 1) := by decide +kernel
theorem d_Tc_threadPasses_115 : decode b_Tc_threadPasses 115 = .ok (.getfield 9, 3) := by decide +kernel
theorem d_Tc_threadPasses_118 : decode b_Tc_threadPasses 118 = .ok (.iload_n 2, 1) := by decide +kernel
theorem d_Tc_threadPasses_119 : decode b_Tc_threadPasses 119 = .ok (.iconst 4, 1) := by decide +kernel
theorem d_Tc_threadPasses_120 : decode b_Tc_threadPasses 120 = .ok (.iadd, 1) := by decide +kernel
theorem d_Tc_threadPasses_121 : decode b_Tc_threadPasses 121 = .ok (.iconst 4, 1) := by decide +kernel
theorem d_Tc_threadPasses_122 : decode b_Tc_threadPasses 122 = .ok (.iload 5, 2) := by decide +kernel
theorem d_Tc_threadPasses_124 : decode b_Tc_threadPasses 124 = .ok (.imul, 1) := by decide +kernel
theorem d_Tc_threadPasses_125 : decode b_Tc_threadPasses 125 = .ok (.iadd, 1) := by decide +kernel
theorem d_Tc_threadPasses_126 : decode b_Tc_threadPasses 126 = .ok (.iconst 4, 1) := by decide +kernel
theorem d_Tc_threadPasses_127 : decode b_Tc_threadPasses 127 = .ok (.invokevirtual 29, 3) := by decide +kernel
theorem d_Tc_threadPasses_130 : decode b_Tc_threadPasses 130 = .ok (.invokevirtual 126, 3) := by decide +kernel
theorem d_Tc_threadPasses_133 : decode b_Tc_threadPasses 133 = .ok (.pop, 1) := by decide +kernel
theorem d_Tc_threadPasses_134 : decode b_Tc_threadPasses 134 = .ok (.iinc 5 1, 3) := by decide +kernel
theorem d_Tc_threadPasses_137 : decode b_Tc_threadPasses 137 = .ok (.goto (-38), 3) := by decide +kernel
theorem d_Tc_threadPasses_140 : decode b_Tc_threadPasses 140 = .ok (.iconst 1, 1) := by decide +kernel
theorem d_Tc_threadPasses_141 : decode b_Tc_threadPasses 141 = .ok (.ireturn, 1) := by decide +kernel
theorem d_Desk_init_0 : decode b_Desk_init 0 = .ok (.aload_n 0, 1) := by decide +kernel
theorem d_Desk_init_1 : decode b_Desk_init 1 = .ok (.invokespecial 1, 3) := by decide +kernel
theorem d_Desk_init_4 : decode b_Desk_init 4 = .ok (.aload_n 0, 1) := by decide +kernel
theorem d_Desk_init_5 : decode b_Desk_init 5 = .ok (.new 7, 3) := by decide +kernel
theorem d_Desk_init_8 : decode b_Desk_init 8 = .ok (.dup, 1) := by decide +kernel
theorem d_Desk_init_9 : decode b_Desk_init 9 = .ok (.invokespecial 9, 3) := by decide +kernel
theorem d_Desk_init_12 : decode b_Desk_init 12 = .ok (.putfield 10, 3) := by decide +kernel
theorem d_Desk_init_15 : decode b_Desk_init 15 = .ok (.aload_n 0, 1) := by decide +kernel
theorem d_Desk_init_16 : decode b_Desk_init 16 = .ok (.new 16, 3) := by decide +kernel
theorem d_Desk_init_19 : decode b_Desk_init 19 = .ok (.dup, 1) := by decide +kernel
theorem d_Desk_init_20 : decode b_Desk_init 20 = .ok (.invokespecial 18, 3) := by decide +kernel
theorem d_Desk_init_23 : decode b_Desk_init 23 = .ok (.putfield 19, 3) := by decide +kernel
theorem d_Desk_init_26 : decode b_Desk_init 26 = .ok (.aload_n 0, 1) := by decide +kernel
theorem d_Desk_init_27 : decode b_Desk_init 27 = .ok (.new 23, 3) := by decide +kernel
theorem d_Desk_init_30 : decode b_Desk_init 30 = .ok (.dup, 1) := by decide +kernel
theorem d_Desk_init_31 : decode b_Desk_init 31 = .ok (.sipush 6588, 3) := by decide +kernel
theorem d_Desk_init_34 : decode b_Desk_init 34 = .ok (.invokespecial 25, 3) := by decide +kernel
theorem d_Desk_init_37 : decode b_Desk_init 37 = .ok (.putfield 28, 3) := by decide +kernel
theorem d_Desk_init_40 : decode b_Desk_init 40 = .ok (.aload_n 0, 1) := by decide +kernel
theorem d_Desk_init_41 : decode b_Desk_init 41 = .ok (.new 32, 3) := by decide +kernel
theorem d_Desk_init_44 : decode b_Desk_init 44 = .ok (.dup, 1) := by decide +kernel
theorem d_Desk_init_45 : decode b_Desk_init 45 = .ok (.aload_n 0, 1) := by decide +kernel
theorem d_Desk_init_46 : decode b_Desk_init 46 = .ok (.getfield 28, 3) := by decide +kernel
theorem d_Desk_init_49 : decode b_Desk_init 49 = .ok (.aload_n 0, 1) := by decide +kernel
theorem d_Desk_init_50 : decode b_Desk_init 50 = .ok (.getfield 10, 3) := by decide +kernel
theorem d_Desk_init_53 : decode b_Desk_init 53 = .ok (.aload_n 0, 1) := by decide +kernel
theorem d_Desk_init_54 : decode b_Desk_init 54 = .ok (.getfield 19, 3) := by decide +kernel
theorem d_Desk_init_57 : decode b_Desk_init 57 = .ok (.invokespecial 34, 3) := by decide +kernel
theorem d_Desk_init_60 : decode b_Desk_init 60 = .ok (.putfield 37, 3) := by decide +kernel
theorem d_Desk_init_63 : decode b_Desk_init 63 = .ok (.aload_n 0, 1) := by decide +kernel
theorem d_Desk_init_64 : decode b_Desk_init 64 = .ok (.new 23, 3) := by decide +kernel
theorem d_Desk_init_67 : decode b_Desk_init 67 = .ok (.dup, 1) := by decide +kernel
theorem d_Desk_init_68 : decode b_Desk_init 68 = .ok (.sipush 8192, 3) := by decide +kernel
theorem d_Desk_init_71 : decode b_Desk_init 71 = .ok (.invokespecial 25, 3) := by decide +kernel
theorem d_Desk_init_74 : decode b_Desk_init 74 = .ok (.putfield 41, 3) := by decide +kernel
theorem d_Desk_init_77 : decode b_Desk_init 77 = .ok (.aload_n 0, 1) := by decide +kernel
theorem d_Desk_init_78 : decode b_Desk_init 78 = .ok (.new 44, 3) := by decide +kernel
theorem d_Desk_init_81 : decode b_Desk_init 81 = .ok (.dup, 1) := by decide +kernel
theorem d_Desk_init_82 : decode b_Desk_init 82 = .ok (.aload_n 0, 1) := by decide +kernel
theorem d_Desk_init_83 : decode b_Desk_init 83 = .ok (.getfield 41, 3) := by decide +kernel
theorem d_Desk_init_86 : decode b_Desk_init 86 = .ok (.invokespecial 46, 3) := by decide +kernel
theorem d_Desk_init_89 : decode b_Desk_init 89 = .ok (.putfield 49, 3) := by decide +kernel
theorem d_Desk_init_92 : decode b_Desk_init 92 = .ok (.aload_n 0, 1) := by decide +kernel
theorem d_Desk_init_93 : decode b_Desk_init 93 = .ok (.new 7, 3) := by decide +kernel
theorem d_Desk_init_96 : decode b_Desk_init 96 = .ok (.dup, 1) := by decide +kernel
theorem d_Desk_init_97 : decode b_Desk_init 97 = .ok (.invokespecial 9, 3) := by decide +kernel
theorem d_Desk_init_100 : decode b_Desk_init 100 = .ok (.putfield 53, 3) := by decide +kernel
theorem d_Desk_init_103 : decode b_Desk_init 103 = .ok (.aload_n 0, 1) := by decide +kernel
theorem d_Desk_init_104 : decode b_Desk_init 104 = .ok (.new 16, 3) := by decide +kernel
theorem d_Desk_init_107 : decode b_Desk_init 107 = .ok (.dup, 1) := by decide +kernel
theorem d_Desk_init_108 : decode b_Desk_init 108 = .ok (.invokespecial 18, 3) := by decide +kernel
theorem d_Desk_init_111 : decode b_Desk_init 111 = .ok (.putfield 56, 3) := by decide +kernel
theorem d_Desk_init_114 : decode b_Desk_init 114 = .ok (.aload_n 0, 1) := by decide +kernel
theorem d_Desk_init_115 : decode b_Desk_init 115 = .ok (.iconst 0, 1) := by decide +kernel
theorem d_Desk_init_116 : decode b_Desk_init 116 = .ok (.putfield 59, 3) := by decide +kernel
theorem d_Desk_init_119 : decode b_Desk_init 119 = .ok (.return_, 1) := by decide +kernel
theorem d_Desk_map_0 : decode b_Desk_map 0 = .ok (.iload_n 2, 1) := by decide +kernel
theorem d_Desk_map_1 : decode b_Desk_map 1 = .ok (.iconst 1, 1) := by decide +kernel
theorem d_Desk_map_2 : decode b_Desk_map 2 = .ok (.if_icmp .lt 9, 3) := by decide +kernel
theorem d_Desk_map_5 : decode b_Desk_map 5 = .ok (.iload_n 2, 1) := by decide +kernel
theorem d_Desk_map_6 : decode b_Desk_map 6 = .ok (.bipush 16, 2) := by decide +kernel
theorem d_Desk_map_8 : decode b_Desk_map 8 = .ok (.if_icmp .le 5, 3) := by decide +kernel
theorem d_Desk_map_11 : decode b_Desk_map 11 = .ok (.iconst 0, 1) := by decide +kernel
theorem d_Desk_map_12 : decode b_Desk_map 12 = .ok (.ireturn, 1) := by decide +kernel
theorem d_Desk_map_13 : decode b_Desk_map 13 = .ok (.aload_n 0, 1) := by decide +kernel
theorem d_Desk_map_14 : decode b_Desk_map 14 = .ok (.getfield 10, 3) := by decide +kernel
theorem d_Desk_map_17 : decode b_Desk_map 17 = .ok (.iload_n 1, 1) := by decide +kernel
theorem d_Desk_map_18 : decode b_Desk_map 18 = .ok (.iload_n 2, 1) := by decide +kernel
theorem d_Desk_map_19 : decode b_Desk_map 19 = .ok (.bipush 64, 2) := by decide +kernel
theorem d_Desk_map_21 : decode b_Desk_map 21 = .ok (.imul, 1) := by decide +kernel
theorem d_Desk_map_22 : decode b_Desk_map 22 = .ok (.iload_n 3, 1) := by decide +kernel
theorem d_Desk_map_23 : decode b_Desk_map 23 = .ok (.invokevirtual 63, 3) := by decide +kernel
theorem d_Desk_map_26 : decode b_Desk_map 26 = .ok (.ireturn, 1) := by decide +kernel
theorem d_Desk_unmap_0 : decode b_Desk_unmap 0 = .ok (.aload_n 0, 1) := by decide +kernel
theorem d_Desk_unmap_1 : decode b_Desk_unmap 1 = .ok (.getfield 10, 3) := by decide +kernel
theorem d_Desk_unmap_4 : decode b_Desk_unmap 4 = .ok (.iload_n 1, 1) := by decide +kernel
theorem d_Desk_unmap_5 : decode b_Desk_unmap 5 = .ok (.invokevirtual 67, 3) := by decide +kernel
theorem d_Desk_unmap_8 : decode b_Desk_unmap 8 = .ok (.ireturn, 1) := by decide +kernel
theorem d_Desk_poke_0 : decode b_Desk_poke 0 = .ok (.aload_n 0, 1) := by decide +kernel
theorem d_Desk_poke_1 : decode b_Desk_poke 1 = .ok (.getfield 10, 3) := by decide +kernel
theorem d_Desk_poke_4 : decode b_Desk_poke 4 = .ok (.iload_n 1, 1) := by decide +kernel
theorem d_Desk_poke_5 : decode b_Desk_poke 5 = .ok (.iload_n 2, 1) := by decide +kernel
theorem d_Desk_poke_6 : decode b_Desk_poke 6 = .ok (.invokevirtual 71, 3) := by decide +kernel
theorem d_Desk_poke_9 : decode b_Desk_poke 9 = .ok (.ireturn, 1) := by decide +kernel
theorem d_Desk_pokeFour_0 : decode b_Desk_pokeFour 0 = .ok (.aload_n 0, 1) := by decide +kernel
theorem d_Desk_pokeFour_1 : decode b_Desk_pokeFour 1 = .ok (.getfield 10, 3) := by decide +kernel
theorem d_Desk_pokeFour_4 : decode b_Desk_pokeFour 4 = .ok (.iload_n 1, 1) := by decide +kernel
theorem d_Desk_pokeFour_5 : decode b_Desk_pokeFour 5 = .ok (.iload_n 2, 1) := by decide +kernel
theorem d_Desk_pokeFour_6 : decode b_Desk_pokeFour 6 = .ok (.invokevirtual 75, 3) := by decide +kernel
theorem d_Desk_pokeFour_9 : decode b_Desk_pokeFour 9 = .ok (.ireturn, 1) := by decide +kernel
theorem d_Desk_thread_0 : decode b_Desk_thread 0 = .ok (.aload_n 0, 1) := by decide +kernel
theorem d_Desk_thread_1 : decode b_Desk_thread 1 = .ok (.getfield 19, 3) := by decide +kernel
theorem d_Desk_thread_4 : decode b_Desk_thread 4 = .ok (.iload_n 1, 1) := by decide +kernel
theorem d_Desk_thread_5 : decode b_Desk_thread 5 = .ok (.invokevirtual 78, 3) := by decide +kernel
theorem d_Desk_thread_8 : decode b_Desk_thread 8 = .ok (.ireturn, 1) := by decide +kernel
theorem d_Desk_set_0 : decode b_Desk_set 0 = .ok (.aload_n 0, 1) := by decide +kernel
theorem d_Desk_set_1 : decode b_Desk_set 1 = .ok (.getfield 19, 3) := by decide +kernel
theorem d_Desk_set_4 : decode b_Desk_set 4 = .ok (.iload_n 1, 1) := by decide +kernel
theorem d_Desk_set_5 : decode b_Desk_set 5 = .ok (.iload_n 2, 1) := by decide +kernel
theorem d_Desk_set_6 : decode b_Desk_set 6 = .ok (.iload_n 3, 1) := by decide +kernel
theorem d_Desk_set_7 : decode b_Desk_set 7 = .ok (.invokevirtual 82, 3) := by decide +kernel
theorem d_Desk_set_10 : decode b_Desk_set 10 = .ok (.ireturn, 1) := by decide +kernel
theorem d_Desk_dump_0 : decode b_Desk_dump 0 = .ok (.aload_n 0, 1) := by decide +kernel
theorem d_Desk_dump_1 : decode b_Desk_dump 1 = .ok (.getfield 37, 3) := by decide +kernel
theorem d_Desk_dump_4 : decode b_Desk_dump 4 = .ok (.invokevirtual 85, 3) := by decide +kernel
theorem d_Desk_dump_7 : decode b_Desk_dump 7 = .ok (.aload_n 0, 1) := by decide +kernel
theorem d_Desk_dump_8 : decode b_Desk_dump 8 = .ok (.getfield 28, 3) := by decide +kernel
theorem d_Desk_dump_11 : decode b_Desk_dump 11 = .ok (.invokevirtual 88, 3) := by decide +kernel
theorem d_Desk_dump_14 : decode b_Desk_dump 14 = .ok (.ireturn, 1) := by decide +kernel
theorem d_Desk_byteAt_0 : decode b_Desk_byteAt 0 = .ok (.aload_n 0, 1) := by decide +kernel
theorem d_Desk_byteAt_1 : decode b_Desk_byteAt 1 = .ok (.getfield 28, 3) := by decide +kernel
theorem d_Desk_byteAt_4 : decode b_Desk_byteAt 4 = .ok (.iload_n 1, 1) := by decide +kernel
theorem d_Desk_byteAt_5 : decode b_Desk_byteAt 5 = .ok (.invokevirtual 92, 3) := by decide +kernel
theorem d_Desk_byteAt_8 : decode b_Desk_byteAt 8 = .ok (.ireturn, 1) := by decide +kernel
theorem d_Desk_copy_0 : decode b_Desk_copy 0 = .ok (.aload_n 0, 1) := by decide +kernel
theorem d_Desk_copy_1 : decode b_Desk_copy 1 = .ok (.getfield 41, 3) := by decide +kernel
theorem d_Desk_copy_4 : decode b_Desk_copy 4 = .ok (.aload_n 0, 1) := by decide +kernel
theorem d_Desk_copy_5 : decode b_Desk_copy 5 = .ok (.getfield 28, 3) := by decide +kernel
theorem d_Desk_copy_8 : decode b_Desk_copy 8 = .ok (.invokevirtual 95, 3) := by decide +kernel
theorem d_Desk_copy_11 : decode b_Desk_copy 11 = .ok (.aload_n 0, 1) := by decide +kernel
theorem d_Desk_copy_12 : decode b_Desk_copy 12 = .ok (.getfield 41, 3) := by decide +kernel
theorem d_Desk_copy_15 : decode b_Desk_copy 15 = .ok (.invokevirtual 88, 3) := by decide +kernel
theorem d_Desk_copy_18 : decode b_Desk_copy 18 = .ok (.ireturn, 1) := by decide +kernel
theorem d_Desk_put_0 : decode b_Desk_put 0 = .ok (.iload_n 1, 1) := by decide +kernel
theorem d_Desk_put_1 : decode b_Desk_put 1 = .ok (.aload_n 0, 1) := by decide +kernel
theorem d_Desk_put_2 : decode b_Desk_put 2 = .ok (.getfield 41, 3) := by decide +kernel
theorem d_Desk_put_5 : decode b_Desk_put 5 = .ok (.invokevirtual 88, 3) := by decide +kernel
theorem d_Desk_put_8 : decode b_Desk_put 8 = .ok (.if_icmp .ne 14, 3) := by decide +kernel
theorem d_Desk_put_11 : decode b_Desk_put 11 = .ok (.aload_n 0, 1) := by decide +kernel
theorem d_Desk_put_12 : decode b_Desk_put 12 = .ok (.getfield 41, 3) := by decide +kernel
theorem d_Desk_put_15 : decode b_Desk_put 15 = .ok (.iload_n 2, 1) := by decide +kernel
theorem d_Desk_put_16 : decode b_Desk_put 16 = .ok (.invokevirtual 98, 3) := by decide +kernel
theorem d_Desk_put_19 : decode b_Desk_put 19 = .ok (.goto 12, 3) := by decide +kernel
theorem d_Desk_put_22 : decode b_Desk_put 22 = .ok (.aload_n 0, 1) := by decide +kernel
theorem d_Desk_put_23 : decode b_Desk_put 23 = .ok (.getfield 41, 3) := by decide +kernel
theorem d_Desk_put_26 : decode b_Desk_put 26 = .ok (.iload_n 1, 1) := by decide +kernel
theorem d_Desk_put_27 : decode b_Desk_put 27 = .ok (.iload_n 2, 1) := by decide +kernel
theorem d_Desk_put_28 : decode b_Desk_put 28 = .ok (.invokevirtual 101, 3) := by decide +kernel
theorem d_Desk_put_31 : decode b_Desk_put 31 = .ok (.ireturn, 1) := by decide +kernel
theorem d_Desk_cut_0 : decode b_Desk_cut 0 = .ok (.aload_n 0, 1) := by decide +kernel
theorem d_Desk_cut_1 : decode b_Desk_cut 1 = .ok (.getfield 41, 3) := by decide +kernel
theorem d_Desk_cut_4 : decode b_Desk_cut 4 = .ok (.iload_n 1, 1) := by decide +kernel
theorem d_Desk_cut_5 : decode b_Desk_cut 5 = .ok (.invokevirtual 104, 3) := by decide +kernel
theorem d_Desk_cut_8 : decode b_Desk_cut 8 = .ok (.ireturn, 1) := by decide +kernel
theorem d_Desk_load_0 : decode b_Desk_load 0 = .ok (.aload_n 0, 1) := by decide +kernel
theorem d_Desk_load_1 : decode b_Desk_load 1 = .ok (.getfield 49, 3) := by decide +kernel
theorem d_Desk_load_4 : decode b_Desk_load 4 = .ok (.invokevirtual 107, 3) := by decide +kernel
theorem d_Desk_load_7 : decode b_Desk_load 7 = .ok (.ifCond .ne 11, 3) := by decide +kernel
theorem d_Desk_load_10 : decode b_Desk_load 10 = .ok (.new 111, 3) := by decide +kernel
theorem d_Desk_load_13 : decode b_Desk_load 13 = .ok (.dup, 1) := by decide +kernel
theorem d_Desk_load_14 : decode b_Desk_load 14 = .ok (.invokespecial 113, 3) := by decide +kernel
theorem d_Desk_load_17 : decode b_Desk_load 17 = .ok (.athrow, 1) := by decide +kernel
theorem d_Desk_load_18 : decode b_Desk_load 18 = .ok (.aload_n 0, 1) := by decide +kernel
theorem d_Desk_load_19 : decode b_Desk_load 19 = .ok (.invokevirtual 114, 3) := by decide +kernel
theorem d_Desk_load_22 : decode b_Desk_load 22 = .ok (.aload_n 0, 1) := by decide +kernel
theorem d_Desk_load_23 : decode b_Desk_load 23 = .ok (.getfield 53, 3) := by decide +kernel
theorem d_Desk_load_26 : decode b_Desk_load 26 = .ok (.invokevirtual 117, 3) := by decide +kernel
theorem d_Desk_load_29 : decode b_Desk_load 29 = .ok (.ireturn, 1) := by decide +kernel
theorem d_Desk_error_0 : decode b_Desk_error 0 = .ok (.iload_n 1, 1) := by decide +kernel
theorem d_Desk_error_1 : decode b_Desk_error 1 = .ok (.ifCond .ne 11, 3) := by decide +kernel
theorem d_Desk_error_4 : decode b_Desk_error 4 = .ok (.aload_n 0, 1) := by decide +kernel
theorem d_Desk_error_5 : decode b_Desk_error 5 = .ok (.getfield 49, 3) := by decide +kernel
theorem d_Desk_error_8 : decode b_Desk_error 8 = .ok (.invokevirtual 120, 3) := by decide +kernel
theorem d_Desk_error_11 : decode b_Desk_error 11 = .ok (.ireturn, 1) := by decide +kernel
theorem d_Desk_error_12 : decode b_Desk_error 12 = .ok (.iload_n 1, 1) := by decide +kernel
theorem d_Desk_error_13 : decode b_Desk_error 13 = .ok (.iconst 1, 1) := by decide +kernel
theorem d_Desk_error_14 : decode b_Desk_error 14 = .ok (.if_icmp .ne 13, 3) := by decide +kernel
theorem d_Desk_error_17 : decode b_Desk_error 17 = .ok (.aload_n 0, 1) := by decide +kernel
theorem d_Desk_error_18 : decode b_Desk_error 18 = .ok (.getfield 49, 3) := by decide +kernel
theorem d_Desk_error_21 : decode b_Desk_error 21 = .ok (.invokevirtual 123, 3) := by decide +kernel
theorem d_Desk_error_24 : decode b_Desk_error 24 = .ok (.goto 4, 3) := by decide +kernel
theorem d_Desk_error_27 : decode b_Desk_error 27 = .ok (.iconst 0, 1) := by decide +kernel
theorem d_Desk_error_28 : decode b_Desk_error 28 = .ok (.ireturn, 1) := by decide +kernel
theorem d_Desk_core_0 : decode b_Desk_core 0 = .ok (.aload_n 0, 1) := by decide +kernel
theorem d_Desk_core_1 : decode b_Desk_core 1 = .ok (.getfield 59, 3) := by decide +kernel
theorem d_Desk_core_4 : decode b_Desk_core 4 = .ok (.ifCond .ne 5, 3) := by decide +kernel
theorem d_Desk_core_7 : decode b_Desk_core 7 = .ok (.iconst (-1), 1) := by decide +kernel
theorem d_Desk_core_8 : decode b_Desk_core 8 = .ok (.ireturn, 1) := by decide +kernel
theorem d_Desk_core_9 : decode b_Desk_core 9 = .ok (.iload_n 1, 1) := by decide +kernel
theorem d_Desk_core_10 : decode b_Desk_core 10 = .ok (.ifCond .ne 11, 3) := by decide +kernel
theorem d_Desk_core_13 : decode b_Desk_core 13 = .ok (.aload_n 0, 1) := by decide +kernel
theorem d_Desk_core_14 : decode b_Desk_core 14 = .ok (.getfield 53, 3) := by decide +kernel
theorem d_Desk_core_17 : decode b_Desk_core 17 = .ok (.invokevirtual 117, 3) := by decide +kernel
theorem d_Desk_core_20 : decode b_Desk_core 20 = .ok (.ireturn, 1) := by decide +kernel
theorem d_Desk_core_21 : decode b_Desk_core 21 = .ok (.iload_n 1, 1) := by decide +kernel
theorem d_Desk_core_22 : decode b_Desk_core 22 = .ok (.iconst 1, 1) := by decide +kernel
theorem d_Desk_core_23 : decode b_Desk_core 23 = .ok (.if_icmp .ne 13, 3) := by decide +kernel
theorem d_Desk_core_26 : decode b_Desk_core 26 = .ok (.aload_n 0, 1) := by decide +kernel
theorem d_Desk_core_27 : decode b_Desk_core 27 = .ok (.getfield 56, 3) := by decide +kernel
theorem d_Desk_core_30 : decode b_Desk_core 30 = .ok (.invokevirtual 126, 3) := by decide +kernel
theorem d_Desk_core_33 : decode b_Desk_core 33 = .ok (.goto 4, 3) := by decide +kernel
theorem d_Desk_core_36 : decode b_Desk_core 36 = .ok (.iconst (-1), 1) := by decide +kernel
theorem d_Desk_core_37 : decode b_Desk_core 37 = .ok (.ireturn, 1) := by decide +kernel
theorem d_Desk_peek_0 : decode b_Desk_peek 0 = .ok (.aload_n 0, 1) := by decide +kernel
theorem d_Desk_peek_1 : decode b_Desk_peek 1 = .ok (.getfield 53, 3) := by decide +kernel
theorem d_Desk_peek_4 : decode b_Desk_peek 4 = .ok (.iload_n 1, 1) := by decide +kernel
theorem d_Desk_peek_5 : decode b_Desk_peek 5 = .ok (.invokevirtual 127, 3) := by decide +kernel
theorem d_Desk_peek_8 : decode b_Desk_peek 8 = .ok (.ireturn, 1) := by decide +kernel
theorem d_Desk_flags_0 : decode b_Desk_flags 0 = .ok (.aload_n 0, 1) := by decide +kernel
theorem d_Desk_flags_1 : decode b_Desk_flags 1 = .ok (.getfield 53, 3) := by decide +kernel
theorem d_Desk_flags_4 : decode b_Desk_flags 4 = .ok (.iload_n 1, 1) := by decide +kernel
theorem d_Desk_flags_5 : decode b_Desk_flags 5 = .ok (.invokevirtual 130, 3) := by decide +kernel
theorem d_Desk_flags_8 : decode b_Desk_flags 8 = .ok (.ireturn, 1) := by decide +kernel
theorem d_Desk_register_0 : decode b_Desk_register 0 = .ok (.aload_n 0, 1) := by decide +kernel
theorem d_Desk_register_1 : decode b_Desk_register 1 = .ok (.getfield 56, 3) := by decide +kernel
theorem d_Desk_register_4 : decode b_Desk_register 4 = .ok (.iload_n 1, 1) := by decide +kernel
theorem d_Desk_register_5 : decode b_Desk_register 5 = .ok (.invokevirtual 133, 3) := by decide +kernel
theorem d_Desk_register_8 : decode b_Desk_register 8 = .ok (.ifCond .eq 38, 3) := by decide +kernel
theorem d_Desk_register_11 : decode b_Desk_register 11 = .ok (.iload_n 2, 1) := by decide +kernel
theorem d_Desk_register_12 : decode b_Desk_register 12 = .ok (.bipush 8, 2) := by decide +kernel
theorem d_Desk_register_14 : decode b_Desk_register 14 = .ok (.if_icmp .ne 12, 3) := by decide +kernel
theorem d_Desk_register_17 : decode b_Desk_register 17 = .ok (.aload_n 0, 1) := by decide +kernel
theorem d_Desk_register_18 : decode b_Desk_register 18 = .ok (.getfield 56, 3) := by decide +kernel
theorem d_Desk_register_21 : decode b_Desk_register 21 = .ok (.iload_n 1, 1) := by decide +kernel
theorem d_Desk_register_22 : decode b_Desk_register 22 = .ok (.invokevirtual 136, 3) := by decide +kernel
theorem d_Desk_register_25 : decode b_Desk_register 25 = .ok (.ireturn, 1) := by decide +kernel
theorem d_Desk_register_26 : decode b_Desk_register 26 = .ok (.iload_n 2, 1) := by decide +kernel
theorem d_Desk_register_27 : decode b_Desk_register 27 = .ok (.ifCond .lt 19, 3) := by decide +kernel
theorem d_Desk_register_30 : decode b_Desk_register 30 = .ok (.iload_n 2, 1) := by decide +kernel
theorem d_Desk_register_31 : decode b_Desk_register 31 = .ok (.bipush 8, 2) := by decide +kernel
theorem d_Desk_register_33 : decode b_Desk_register 33 = .ok (.if_icmp .ge 13, 3) := by decide +kernel
theorem d_Desk_register_36 : decode b_Desk_register 36 = .ok (.aload_n 0, 1) := by decide +kernel
theorem d_Desk_register_37 : decode b_Desk_register 37 = .ok (.getfield 56, 3) := by decide +kernel
theorem d_Desk_register_40 : decode b_Desk_register 40 = .ok (.iload_n 1, 1) := by decide +kernel
theorem d_Desk_register_41 : decode b_Desk_register 41 = .ok (.iload_n 2, 1) := by decide +kernel
theorem d_Desk_register_42 : decode b_Desk_register 42 = .ok (.invokevirtual 139, 3) := by decide +kernel
theorem d_Desk_register_45 : decode b_Desk_register 45 = .ok (.ireturn, 1) := by decide +kernel
theorem d_Desk_register_46 : decode b_Desk_register 46 = .ok (.new 143, 3) := by decide +kernel
theorem d_Desk_register_49 : decode b_Desk_register 49 = .ok (.dup, 1) := by decide +kernel
theorem d_Desk_register_50 : decode b_Desk_register 50 = .ok (.invokespecial 145, 3) := by decide +kernel
theorem d_Desk_register_53 : decode b_Desk_register 53 = .ok (.athrow, 1) := by decide +kernel
theorem d_Desk_find_0 : decode b_Desk_find 0 = .ok (.aload_n 0, 1) := by decide +kernel
theorem d_Desk_find_1 : decode b_Desk_find 1 = .ok (.getfield 53, 3) := by decide +kernel
theorem d_Desk_find_4 : decode b_Desk_find 4 = .ok (.iload_n 1, 1) := by decide +kernel
theorem d_Desk_find_5 : decode b_Desk_find 5 = .ok (.iload_n 2, 1) := by decide +kernel
theorem d_Desk_find_6 : decode b_Desk_find 6 = .ok (.invokevirtual 146, 3) := by decide +kernel
theorem d_Desk_find_9 : decode b_Desk_find 9 = .ok (.ireturn, 1) := by decide +kernel
theorem d_Desk_caller_0 : decode b_Desk_caller 0 = .ok (.aload_n 0, 1) := by decide +kernel
theorem d_Desk_caller_1 : decode b_Desk_caller 1 = .ok (.getfield 56, 3) := by decide +kernel
theorem d_Desk_caller_4 : decode b_Desk_caller 4 = .ok (.iload_n 1, 1) := by decide +kernel
theorem d_Desk_caller_5 : decode b_Desk_caller 5 = .ok (.invokevirtual 133, 3) := by decide +kernel
theorem d_Desk_caller_8 : decode b_Desk_caller 8 = .ok (.ifCond .eq 14, 3) := by decide +kernel
theorem d_Desk_caller_11 : decode b_Desk_caller 11 = .ok (.iload_n 2, 1) := by decide +kernel
theorem d_Desk_caller_12 : decode b_Desk_caller 12 = .ok (.ifCond .lt 10, 3) := by decide +kernel
theorem d_Desk_caller_15 : decode b_Desk_caller 15 = .ok (.iload_n 2, 1) := by decide +kernel
theorem d_Desk_caller_16 : decode b_Desk_caller 16 = .ok (.sipush 6144, 3) := by decide +kernel
theorem d_Desk_caller_19 : decode b_Desk_caller 19 = .ok (.if_icmp .lt 5, 3) := by decide +kernel
theorem d_Desk_caller_22 : decode b_Desk_caller 22 = .ok (.iconst (-1), 1) := by decide +kernel
theorem d_Desk_caller_23 : decode b_Desk_caller 23 = .ok (.ireturn, 1) := by decide +kernel
theorem d_Desk_caller_24 : decode b_Desk_caller 24 = .ok (.aload_n 0, 1) := by decide +kernel
theorem d_Desk_caller_25 : decode b_Desk_caller 25 = .ok (.getfield 56, 3) := by decide +kernel
theorem d_Desk_caller_28 : decode b_Desk_caller 28 = .ok (.iload_n 1, 1) := by decide +kernel
theorem d_Desk_caller_29 : decode b_Desk_caller 29 = .ok (.bipush 7, 2) := by decide +kernel
theorem d_Desk_caller_31 : decode b_Desk_caller 31 = .ok (.invokevirtual 139, 3) := by decide +kernel
theorem d_Desk_caller_34 : decode b_Desk_caller 34 = .ok (.istore_n 3, 1) := by decide +kernel
theorem d_Desk_caller_35 : decode b_Desk_caller 35 = .ok (.iconst 0, 1) := by decide +kernel
theorem d_Desk_caller_36 : decode b_Desk_caller 36 = .ok (.istore 4, 2) := by decide +kernel
theorem d_Desk_caller_38 : decode b_Desk_caller 38 = .ok (.iconst 0, 1) := by decide +kernel
theorem d_Desk_caller_39 : decode b_Desk_caller 39 = .ok (.istore 5, 2) := by decide +kernel
theorem d_Desk_caller_41 : decode b_Desk_caller 41 = .ok (.iload 5, 2) := by decide +kernel
theorem d_Desk_caller_43 : decode b_Desk_caller 43 = .ok (.iload_n 2, 1) := by decide +kernel
theorem d_Desk_caller_44 : decode b_Desk_caller 44 = .ok (.if_icmp .ge 33, 3) := by decide +kernel
theorem d_Desk_caller_47 : decode b_Desk_caller 47 = .ok (.aload_n 0, 1) := by decide +kernel
theorem d_Desk_caller_48 : decode b_Desk_caller 48 = .ok (.iload_n 3, 1) := by decide +kernel
theorem d_Desk_caller_49 : decode b_Desk_caller 49 = .ok (.iload 4, 2) := by decide +kernel
theorem d_Desk_caller_51 : decode b_Desk_caller 51 = .ok (.invokevirtual 149, 3) := by decide +kernel
theorem d_Desk_caller_54 : decode b_Desk_caller 54 = .ok (.ifCond .ne 5, 3) := by decide +kernel
theorem d_Desk_caller_57 : decode b_Desk_caller 57 = .ok (.iconst (-1), 1) := by decide +kernel
theorem d_Desk_caller_58 : decode b_Desk_caller 58 = .ok (.ireturn, 1) := by decide +kernel
theorem d_Desk_caller_59 : decode b_Desk_caller 59 = .ok (.iload_n 3, 1) := by decide +kernel
theorem d_Desk_caller_60 : decode b_Desk_caller 60 = .ok (.istore 4, 2) := by decide +kernel
theorem d_Desk_caller_62 : decode b_Desk_caller 62 = .ok (.aload_n 0, 1) := by decide +kernel
theorem d_Desk_caller_63 : decode b_Desk_caller 63 = .ok (.getfield 53, 3) := by decide +kernel
theorem d_Desk_caller_66 : decode b_Desk_caller 66 = .ok (.iload_n 3, 1) := by decide +kernel
theorem d_Desk_caller_67 : decode b_Desk_caller 67 = .ok (.invokevirtual 152, 3) := by decide +kernel
theorem d_Desk_caller_70 : decode b_Desk_caller 70 = .ok (.istore_n 3, 1) := by decide +kernel
theorem d_Desk_caller_71 : decode b_Desk_caller 71 = .ok (.iinc 5 1, 3) := by decide +kernel
theorem d_Desk_caller_74 : decode b_Desk_caller 74 = .ok (.goto (-33), 3) := by decide +kernel
theorem d_Desk_caller_77 : decode b_Desk_caller 77 = .ok (.aload_n 0, 1) := by decide +kernel
theorem d_Desk_caller_78 : decode b_Desk_caller 78 = .ok (.iload_n 3, 1) := by decide +kernel
theorem d_Desk_caller_79 : decode b_Desk_caller 79 = .ok (.iload 4, 2) := by decide +kernel
theorem d_Desk_caller_81 : decode b_Desk_caller 81 = .ok (.invokevirtual 149, 3) := by decide +kernel
theorem d_Desk_caller_84 : decode b_Desk_caller 84 = .ok (.ifCond .eq 16, 3) := by decide +kernel
theorem d_Desk_caller_87 : decode b_Desk_caller 87 = .ok (.aload_n 0, 1) := by decide +kernel
theorem d_Desk_caller_88 : decode b_Desk_caller 88 = .ok (.getfield 53, 3) := by decide +kernel
theorem d_Desk_caller_91 : decode b_Desk_caller 91 = .ok (.iload_n 3, 1) := by decide +kernel
theorem d_Desk_caller_92 : decode b_Desk_caller 92 = .ok (.iconst 4, 1) := by decide +kernel
theorem d_Desk_caller_93 : decode b_Desk_caller 93 = .ok (.iadd, 1) := by decide +kernel
theorem d_Desk_caller_94 : decode b_Desk_caller 94 = .ok (.invokevirtual 152, 3) := by decide +kernel
theorem d_Desk_caller_97 : decode b_Desk_caller 97 = .ok (.goto 4, 3) := by decide +kernel
theorem d_Desk_caller_100 : decode b_Desk_caller 100 = .ok (.iconst (-1), 1) := by decide +kernel
theorem d_Desk_caller_101 : decode b_Desk_caller 101 = .ok (.ireturn, 1) := by decide +kernel
theorem d_Desk_isFrame_0 : decode b_Desk_isFrame 0 = .ok (.iload_n 1, 1) := by decide +kernel
theorem d_Desk_isFrame_1 : decode b_Desk_isFrame 1 = .ok (.iload_n 2, 1) := by decide +kernel
theorem d_Desk_isFrame_2 : decode b_Desk_isFrame 2 = .ok (.if_icmp .le 20, 3) := by decide +kernel
theorem d_Desk_isFrame_5 : decode b_Desk_isFrame 5 = .ok (.aload_n 0, 1) := by decide +kernel
theorem d_Desk_isFrame_6 : decode b_Desk_isFrame 6 = .ok (.getfield 53, 3) := by decide +kernel
theorem d_Desk_isFrame_9 : decode b_Desk_isFrame 9 = .ok (.iload_n 1, 1) := by decide +kernel
theorem d_Desk_isFrame_10 : decode b_Desk_isFrame 10 = .ok (.bipush 8, 2) := by decide +kernel
theorem d_Desk_isFrame_12 : decode b_Desk_isFrame 12 = .ok (.invokevirtual 155, 3) := by decide +kernel
theorem d_Desk_isFrame_15 : decode b_Desk_isFrame 15 = .ok (.ifCond .eq 7, 3) := by decide +kernel
theorem d_Desk_isFrame_18 : decode b_Desk_isFrame 18 = .ok (.iconst 1, 1) := by decide +kernel
theorem d_Desk_isFrame_19 : decode b_Desk_isFrame 19 = .ok (.goto 4, 3) := by decide +kernel
theorem d_Desk_isFrame_22 : decode b_Desk_isFrame 22 = .ok (.iconst 0, 1) := by decide +kernel
theorem d_Desk_isFrame_23 : decode b_Desk_isFrame 23 = .ok (.ireturn, 1) := by decide +kernel
theorem d_Desk_takeCore_0 : decode b_Desk_takeCore 0 = .ok (.aload_n 0, 1) := by decide +kernel
theorem d_Desk_takeCore_1 : decode b_Desk_takeCore 1 = .ok (.getfield 53, 3) := by decide +kernel
theorem d_Desk_takeCore_4 : decode b_Desk_takeCore 4 = .ok (.invokevirtual 158, 3) := by decide +kernel
theorem d_Desk_takeCore_7 : decode b_Desk_takeCore 7 = .ok (.aload_n 0, 1) := by decide +kernel
theorem d_Desk_takeCore_8 : decode b_Desk_takeCore 8 = .ok (.getfield 49, 3) := by decide +kernel
theorem d_Desk_takeCore_11 : decode b_Desk_takeCore 11 = .ok (.invokevirtual 161, 3) := by decide +kernel
theorem d_Desk_takeCore_14 : decode b_Desk_takeCore 14 = .ok (.istore_n 1, 1) := by decide +kernel
theorem d_Desk_takeCore_15 : decode b_Desk_takeCore 15 = .ok (.iconst 1, 1) := by decide +kernel
theorem d_Desk_takeCore_16 : decode b_Desk_takeCore 16 = .ok (.istore_n 2, 1) := by decide +kernel
theorem d_Desk_takeCore_17 : decode b_Desk_takeCore 17 = .ok (.iload_n 2, 1) := by decide +kernel
theorem d_Desk_takeCore_18 : decode b_Desk_takeCore 18 = .ok (.iload_n 1, 1) := by decide +kernel
theorem d_Desk_takeCore_19 : decode b_Desk_takeCore 19 = .ok (.if_icmp .ge 77, 3) := by decide +kernel
theorem d_Desk_takeCore_22 : decode b_Desk_takeCore 22 = .ok (.aload_n 0, 1) := by decide +kernel
theorem d_Desk_takeCore_23 : decode b_Desk_takeCore 23 = .ok (.getfield 49, 3) := by decide +kernel
theorem d_Desk_takeCore_26 : decode b_Desk_takeCore 26 = .ok (.iload_n 2, 1) := by decide +kernel
theorem d_Desk_takeCore_27 : decode b_Desk_takeCore 27 = .ok (.iconst 2, 1) := by decide +kernel
theorem d_Desk_takeCore_28 : decode b_Desk_takeCore 28 = .ok (.invokevirtual 164, 3) := by decide +kernel
theorem d_Desk_takeCore_31 : decode b_Desk_takeCore 31 = .ok (.istore_n 3, 1) := by decide +kernel
theorem d_Desk_takeCore_32 : decode b_Desk_takeCore 32 = .ok (.aload_n 0, 1) := by decide +kernel
theorem d_Desk_takeCore_33 : decode b_Desk_takeCore 33 = .ok (.getfield 53, 3) := by decide +kernel
theorem d_Desk_takeCore_36 : decode b_Desk_takeCore 36 = .ok (.iload_n 3, 1) := by decide +kernel
theorem d_Desk_takeCore_37 : decode b_Desk_takeCore 37 = .ok (.aload_n 0, 1) := by decide +kernel
theorem d_Desk_takeCore_38 : decode b_Desk_takeCore 38 = .ok (.getfield 49, 3) := by decide +kernel
theorem d_Desk_takeCore_41 : decode b_Desk_takeCore 41 = .ok (.iload_n 2, 1) := by decide +kernel
theorem d_Desk_takeCore_42 : decode b_Desk_takeCore 42 = .ok (.iconst 5, 1) := by decide +kernel
theorem d_Desk_takeCore_43 : decode b_Desk_takeCore 43 = .ok (.invokevirtual 164, 3) := by decide +kernel
theorem d_Desk_takeCore_46 : decode b_Desk_takeCore 46 = .ok (.aload_n 0, 1) := by decide +kernel
theorem d_Desk_takeCore_47 : decode b_Desk_takeCore 47 = .ok (.getfield 49, 3) := by decide +kernel
theorem d_Desk_takeCore_50 : decode b_Desk_takeCore 50 = .ok (.iload_n 2, 1) := by decide +kernel
theorem d_Desk_takeCore_51 : decode b_Desk_takeCore 51 = .ok (.bipush 6, 2) := by decide +kernel
theorem d_Desk_takeCore_53 : decode b_Desk_takeCore 53 = .ok (.invokevirtual 164, 3) := by decide +kernel
theorem d_Desk_takeCore_56 : decode b_Desk_takeCore 56 = .ok (.invokevirtual 63, 3) := by decide +kernel
theorem d_Desk_takeCore_59 : decode b_Desk_takeCore 59 = .ok (.pop, 1) := by decide +kernel
theorem d_Desk_takeCore_60 : decode b_Desk_takeCore 60 = .ok (.aload_n 0, 1) := by decide +kernel
theorem d_Desk_takeCore_61 : decode b_Desk_takeCore 61 = .ok (.getfield 53, 3) := by decide +kernel
theorem d_Desk_takeCore_64 : decode b_Desk_takeCore 64 = .ok (.iload_n 3, 1) := by decide +kernel
theorem d_Desk_takeCore_65 : decode b_Desk_takeCore 65 = .ok (.aload_n 0, 1) := by decide +kernel
theorem d_Desk_takeCore_66 : decode b_Desk_takeCore 66 = .ok (.getfield 41, 3) := by decide +kernel
theorem d_Desk_takeCore_69 : decode b_Desk_takeCore 69 = .ok (.aload_n 0, 1) := by decide +kernel
theorem d_Desk_takeCore_70 : decode b_Desk_takeCore 70 = .ok (.getfield 49, 3) := by decide +kernel
theorem d_Desk_takeCore_73 : decode b_Desk_takeCore 73 = .ok (.iload_n 2, 1) := by decide +kernel
theorem d_Desk_takeCore_74 : decode b_Desk_takeCore 74 = .ok (.iconst 1, 1) := by decide +kernel
theorem d_Desk_takeCore_75 : decode b_Desk_takeCore 75 = .ok (.invokevirtual 164, 3) := by decide +kernel
theorem d_Desk_takeCore_78 : decode b_Desk_takeCore 78 = .ok (.aload_n 0, 1) := by decide +kernel
theorem d_Desk_takeCore_79 : decode b_Desk_takeCore 79 = .ok (.getfield 49, 3) := by decide +kernel
theorem d_Desk_takeCore_82 : decode b_Desk_takeCore 82 = .ok (.iload_n 2, 1) := by decide +kernel
theorem d_Desk_takeCore_83 : decode b_Desk_takeCore 83 = .ok (.iconst 4, 1) := by decide +kernel
theorem d_Desk_takeCore_84 : decode b_Desk_takeCore 84 = .ok (.invokevirtual 164, 3) := by decide +kernel
theorem d_Desk_takeCore_87 : decode b_Desk_takeCore 87 = .ok (.invokevirtual 167, 3) := by decide +kernel
theorem d_Desk_takeCore_90 : decode b_Desk_takeCore 90 = .ok (.iinc 2 1, 3) := by decide +kernel
theorem d_Desk_takeCore_93 : decode b_Desk_takeCore 93 = .ok (.goto (-76), 3) := by decide +kernel
theorem d_Desk_takeCore_96 : decode b_Desk_takeCore 96 = .ok (.aload_n 0, 1) := by decide +kernel
theorem d_Desk_takeCore_97 : decode b_Desk_takeCore 97 = .ok (.getfield 56, 3) := by decide +kernel
theorem d_Desk_takeCore_100 : decode b_Desk_takeCore 100 = .ok (.aload_n 0, 1) := by decide +kernel
theorem d_Desk_takeCore_101 : decode b_Desk_takeCore 101 = .ok (.getfield 49, 3) := by decide +kernel
theorem d_Desk_takeCore_104 : decode b_Desk_takeCore 104 = .ok (.invokevirtual 171, 3) := by decide +kernel
theorem d_Desk_takeCore_107 : decode b_Desk_takeCore 107 = .ok (.invokevirtual 175, 3) := by decide +kernel
theorem d_Desk_takeCore_110 : decode b_Desk_takeCore 110 = .ok (.aload_n 0, 1) := by decide +kernel
theorem d_Desk_takeCore_111 : decode b_Desk_takeCore 111 = .ok (.iconst 1, 1) := by decide +kernel
theorem d_Desk_takeCore_112 : decode b_Desk_takeCore 112 = .ok (.putfield 59, 3) := by decide +kernel
theorem d_Desk_takeCore_115 : decode b_Desk_takeCore 115 = .ok (.return_, 1) := by decide +kernel
