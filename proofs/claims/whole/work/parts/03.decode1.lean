set_option maxRecDepth 20000
theorem dX0_read_0 : decode cX0_read 0 = .ok (.aload_n 0, 1) := by decide +kernel
theorem dX0_read_1 : decode cX0_read 1 = .ok (.getstatic 9, 3) := by decide +kernel
theorem dX0_read_4 : decode cX0_read 4 = .ok (.invokevirtual 15, 3) := by decide +kernel
theorem dX0_read_7 : decode cX0_read 7 = .ok (.ifCond .eq 4, 3) := by decide +kernel
theorem dX0_read_10 : decode cX0_read 10 = .ok (.return_, 1) := by decide +kernel
theorem dX0_read_11 : decode cX0_read 11 = .ok (.iconst 0, 1) := by decide +kernel
theorem dX0_read_12 : decode cX0_read 12 = .ok (.istore_n 2, 1) := by decide +kernel
theorem dX0_read_13 : decode cX0_read 13 = .ok (.iload_n 2, 1) := by decide +kernel
theorem dX0_read_14 : decode cX0_read 14 = .ok (.bipush 14, 2) := by decide +kernel
theorem dX0_read_16 : decode cX0_read 16 = .ok (.if_icmp .ge 29, 3) := by decide +kernel
theorem dX0_read_19 : decode cX0_read 19 = .ok (.aload_n 0, 1) := by decide +kernel
theorem dX0_read_20 : decode cX0_read 20 = .ok (.aload_n 1, 1) := by decide +kernel
theorem dX0_read_21 : decode cX0_read 21 = .ok (.invokestatic 23, 3) := by decide +kernel
theorem dX0_read_24 : decode cX0_read 24 = .ok (.aload_n 0, 1) := by decide +kernel
theorem dX0_read_25 : decode cX0_read 25 = .ok (.getstatic 27, 3) := by decide +kernel
theorem dX0_read_28 : decode cX0_read 28 = .ok (.invokevirtual 30, 3) := by decide +kernel
theorem dX0_read_31 : decode cX0_read 31 = .ok (.ifCond .ne 8, 3) := by decide +kernel
theorem dX0_read_34 : decode cX0_read 34 = .ok (.aload_n 0, 1) := by decide +kernel
theorem dX0_read_35 : decode cX0_read 35 = .ok (.invokevirtual 33, 3) := by decide +kernel
theorem dX0_read_38 : decode cX0_read 38 = .ok (.return_, 1) := by decide +kernel
theorem dX0_read_39 : decode cX0_read 39 = .ok (.iinc 2 1, 3) := by decide +kernel
theorem dX0_read_42 : decode cX0_read 42 = .ok (.goto (-29), 3) := by decide +kernel
theorem dX0_read_45 : decode cX0_read 45 = .ok (.aload_n 0, 1) := by decide +kernel
theorem dX0_read_46 : decode cX0_read 46 = .ok (.invokevirtual 36, 3) := by decide +kernel
theorem dX0_read_49 : decode cX0_read 49 = .ok (.return_, 1) := by decide +kernel
theorem dX0_readLine_0 : decode cX0_readLine 0 = .ok (.aload_n 0, 1) := by decide +kernel
theorem dX0_readLine_1 : decode cX0_readLine 1 = .ok (.getstatic 39, 3) := by decide +kernel
theorem dX0_readLine_4 : decode cX0_readLine 4 = .ok (.invokevirtual 15, 3) := by decide +kernel
theorem dX0_readLine_7 : decode cX0_readLine 7 = .ok (.ifCond .eq 11, 3) := by decide +kernel
theorem dX0_readLine_10 : decode cX0_readLine 10 = .ok (.aload_n 0, 1) := by decide +kernel
theorem dX0_readLine_11 : decode cX0_readLine 11 = .ok (.aload_n 1, 1) := by decide +kernel
theorem dX0_readLine_12 : decode cX0_readLine 12 = .ok (.invokestatic 42, 3) := by decide +kernel
theorem dX0_readLine_15 : decode cX0_readLine 15 = .ok (.goto 179, 3) := by decide +kernel
theorem dX0_readLine_18 : decode cX0_readLine 18 = .ok (.aload_n 0, 1) := by decide +kernel
theorem dX0_readLine_19 : decode cX0_readLine 19 = .ok (.getstatic 45, 3) := by decide +kernel
theorem dX0_readLine_22 : decode cX0_readLine 22 = .ok (.invokevirtual 15, 3) := by decide +kernel
theorem dX0_readLine_25 : decode cX0_readLine 25 = .ok (.ifCond .eq 11, 3) := by decide +kernel
theorem dX0_readLine_28 : decode cX0_readLine 28 = .ok (.aload_n 0, 1) := by decide +kernel
theorem dX0_readLine_29 : decode cX0_readLine 29 = .ok (.aload_n 1, 1) := by decide +kernel
theorem dX0_readLine_30 : decode cX0_readLine 30 = .ok (.invokestatic 48, 3) := by decide +kernel
theorem dX0_readLine_33 : decode cX0_readLine 33 = .ok (.goto 161, 3) := by decide +kernel
theorem dX0_readLine_36 : decode cX0_readLine 36 = .ok (.aload_n 0, 1) := by decide +kernel
theorem dX0_readLine_37 : decode cX0_readLine 37 = .ok (.getstatic 51, 3) := by decide +kernel
theorem dX0_readLine_40 : decode cX0_readLine 40 = .ok (.invokevirtual 30, 3) := by decide +kernel
theorem dX0_readLine_43 : decode cX0_readLine 43 = .ok (.ifCond .eq 14, 3) := by decide +kernel
theorem dX0_readLine_46 : decode cX0_readLine 46 = .ok (.aload_n 0, 1) := by decide +kernel
theorem dX0_readLine_47 : decode cX0_readLine 47 = .ok (.aload_n 1, 1) := by decide +kernel
theorem dX0_readLine_48 : decode cX0_readLine 48 = .ok (.getfield 54, 3) := by decide +kernel
theorem dX0_readLine_51 : decode cX0_readLine 51 = .ok (.invokestatic 60, 3) := by decide +kernel
theorem dX0_readLine_54 : decode cX0_readLine 54 = .ok (.goto 140, 3) := by decide +kernel
theorem dX0_readLine_57 : decode cX0_readLine 57 = .ok (.aload_n 0, 1) := by decide +kernel
theorem dX0_readLine_58 : decode cX0_readLine 58 = .ok (.getstatic 64, 3) := by decide +kernel
theorem dX0_readLine_61 : decode cX0_readLine 61 = .ok (.invokevirtual 30, 3) := by decide +kernel
theorem dX0_readLine_64 : decode cX0_readLine 64 = .ok (.ifCond .eq 30, 3) := by decide +kernel
theorem dX0_readLine_67 : decode cX0_readLine 67 = .ok (.aload_n 0, 1) := by decide +kernel
theorem dX0_readLine_68 : decode cX0_readLine 68 = .ok (.iconst 0, 1) := by decide +kernel
theorem dX0_readLine_69 : decode cX0_readLine 69 = .ok (.bipush 7, 2) := by decide +kernel
theorem dX0_readLine_71 : decode cX0_readLine 71 = .ok (.invokevirtual 67, 3) := by decide +kernel
theorem dX0_readLine_74 : decode cX0_readLine 74 = .ok (.istore_n 2, 1) := by decide +kernel
theorem dX0_readLine_75 : decode cX0_readLine 75 = .ok (.aload_n 1, 1) := by decide +kernel
theorem dX0_readLine_76 : decode cX0_readLine 76 = .ok (.getfield 54, 3) := by decide +kernel
theorem dX0_readLine_79 : decode cX0_readLine 79 = .ok (.getfield 71, 3) := by decide +kernel
theorem dX0_readLine_82 : decode cX0_readLine 82 = .ok (.iload_n 2, 1) := by decide +kernel
theorem dX0_readLine_83 : decode cX0_readLine 83 = .ok (.aload_n 0, 1) := by decide +kernel
theorem dX0_readLine_84 : decode cX0_readLine 84 = .ok (.iconst 0, 1) := by decide +kernel
theorem dX0_readLine_85 : decode cX0_readLine 85 = .ok (.bipush 9, 2) := by decide +kernel
theorem dX0_readLine_87 : decode cX0_readLine 87 = .ok (.invokevirtual 67, 3) := by decide +kernel
theorem dX0_readLine_90 : decode cX0_readLine 90 = .ok (.iastore, 1) := by decide +kernel
theorem dX0_readLine_91 : decode cX0_readLine 91 = .ok (.goto 103, 3) := by decide +kernel
theorem dX0_readLine_94 : decode cX0_readLine 94 = .ok (.aload_n 0, 1) := by decide +kernel
theorem dX0_readLine_95 : decode cX0_readLine 95 = .ok (.getstatic 77, 3) := by decide +kernel
theorem dX0_readLine_98 : decode cX0_readLine 98 = .ok (.invokevirtual 30, 3) := by decide +kernel
theorem dX0_readLine_101 : decode cX0_readLine 101 = .ok (.ifCond .eq 17, 3) := by decide +kernel
theorem dX0_readLine_104 : decode cX0_readLine 104 = .ok (.aload_n 1, 1) := by decide +kernel
theorem dX0_readLine_105 : decode cX0_readLine 105 = .ok (.aload_n 0, 1) := by decide +kernel
theorem dX0_readLine_106 : decode cX0_readLine 106 = .ok (.iconst 0, 1) := by decide +kernel
theorem dX0_readLine_107 : decode cX0_readLine 107 = .ok (.bipush 20, 2) := by decide +kernel
theorem dX0_readLine_109 : decode cX0_readLine 109 = .ok (.invokevirtual 67, 3) := by decide +kernel
theorem dX0_readLine_112 : decode cX0_readLine 112 = .ok (.putfield 80, 3) := by decide +kernel
theorem dX0_readLine_115 : decode cX0_readLine 115 = .ok (.goto 79, 3) := by decide +kernel
theorem dX0_readLine_118 : decode cX0_readLine 118 = .ok (.aload_n 0, 1) := by decide +kernel
theorem dX0_readLine_119 : decode cX0_readLine 119 = .ok (.getstatic 84, 3) := by decide +kernel
theorem dX0_readLine_122 : decode cX0_readLine 122 = .ok (.invokevirtual 30, 3) := by decide +kernel
theorem dX0_readLine_125 : decode cX0_readLine 125 = .ok (.ifCond .eq 17, 3) := by decide +kernel
theorem dX0_readLine_128 : decode cX0_readLine 128 = .ok (.aload_n 1, 1) := by decide +kernel
theorem dX0_readLine_129 : decode cX0_readLine 129 = .ok (.aload_n 0, 1) := by decide +kernel
theorem dX0_readLine_130 : decode cX0_readLine 130 = .ok (.iconst 0, 1) := by decide +kernel
theorem dX0_readLine_131 : decode cX0_readLine 131 = .ok (.bipush 99, 2) := by decide +kernel
theorem dX0_readLine_133 : decode cX0_readLine 133 = .ok (.invokevirtual 67, 3) := by decide +kernel
theorem dX0_readLine_136 : decode cX0_readLine 136 = .ok (.putfield 87, 3) := by decide +kernel
theorem dX0_readLine_139 : decode cX0_readLine 139 = .ok (.goto 55, 3) := by decide +kernel
theorem dX0_readLine_142 : decode cX0_readLine 142 = .ok (.aload_n 0, 1) := by decide +kernel
theorem dX0_readLine_143 : decode cX0_readLine 143 = .ok (.getstatic 90, 3) := by decide +kernel
theorem dX0_readLine_146 : decode cX0_readLine 146 = .ok (.invokevirtual 30, 3) := by decide +kernel
theorem dX0_readLine_149 : decode cX0_readLine 149 = .ok (.ifCond .eq 17, 3) := by decide +kernel
theorem dX0_readLine_152 : decode cX0_readLine 152 = .ok (.aload_n 1, 1) := by decide +kernel
theorem dX0_readLine_153 : decode cX0_readLine 153 = .ok (.aload_n 0, 1) := by decide +kernel
theorem dX0_readLine_154 : decode cX0_readLine 154 = .ok (.iconst 0, 1) := by decide +kernel
theorem dX0_readLine_155 : decode cX0_readLine 155 = .ok (.bipush 100, 2) := by decide +kernel
theorem dX0_readLine_157 : decode cX0_readLine 157 = .ok (.invokevirtual 67, 3) := by decide +kernel
theorem dX0_readLine_160 : decode cX0_readLine 160 = .ok (.putfield 93, 3) := by decide +kernel
theorem dX0_readLine_163 : decode cX0_readLine 163 = .ok (.goto 31, 3) := by decide +kernel
theorem dX0_readLine_166 : decode cX0_readLine 166 = .ok (.aload_n 0, 1) := by decide +kernel
theorem dX0_readLine_167 : decode cX0_readLine 167 = .ok (.getstatic 96, 3) := by decide +kernel
theorem dX0_readLine_170 : decode cX0_readLine 170 = .ok (.invokevirtual 30, 3) := by decide +kernel
theorem dX0_readLine_173 : decode cX0_readLine 173 = .ok (.ifCond .eq 17, 3) := by decide +kernel
theorem dX0_readLine_176 : decode cX0_readLine 176 = .ok (.aload_n 1, 1) := by decide +kernel
theorem dX0_readLine_177 : decode cX0_readLine 177 = .ok (.aload_n 0, 1) := by decide +kernel
theorem dX0_readLine_178 : decode cX0_readLine 178 = .ok (.iconst 0, 1) := by decide +kernel
theorem dX0_readLine_179 : decode cX0_readLine 179 = .ok (.bipush 100, 2) := by decide +kernel
theorem dX0_readLine_181 : decode cX0_readLine 181 = .ok (.invokevirtual 67, 3) := by decide +kernel
theorem dX0_readLine_184 : decode cX0_readLine 184 = .ok (.putfield 99, 3) := by decide +kernel
theorem dX0_readLine_187 : decode cX0_readLine 187 = .ok (.goto 7, 3) := by decide +kernel
theorem dX0_readLine_190 : decode cX0_readLine 190 = .ok (.aload_n 0, 1) := by decide +kernel
theorem dX0_readLine_191 : decode cX0_readLine 191 = .ok (.invokevirtual 36, 3) := by decide +kernel
theorem dX0_readLine_194 : decode cX0_readLine 194 = .ok (.return_, 1) := by decide +kernel
theorem dX0_readSoap_0 : decode cX0_readSoap 0 = .ok (.aload_n 1, 1) := by decide +kernel
theorem dX0_readSoap_1 : decode cX0_readSoap 1 = .ok (.getfield 102, 3) := by decide +kernel
theorem dX0_readSoap_4 : decode cX0_readSoap 4 = .ok (.bipush 6, 2) := by decide +kernel
theorem dX0_readSoap_6 : decode cX0_readSoap 6 = .ok (.if_icmp .lt 7, 3) := by decide +kernel
theorem dX0_readSoap_9 : decode cX0_readSoap 9 = .ok (.aload_n 0, 1) := by decide +kernel
theorem dX0_readSoap_10 : decode cX0_readSoap 10 = .ok (.invokevirtual 36, 3) := by decide +kernel
theorem dX0_readSoap_13 : decode cX0_readSoap 13 = .ok (.aload_n 0, 1) := by decide +kernel
theorem dX0_readSoap_14 : decode cX0_readSoap 14 = .ok (.getstatic 39, 3) := by decide +kernel
theorem dX0_readSoap_17 : decode cX0_readSoap 17 = .ok (.invokevirtual 105, 3) := by decide +kernel
theorem dX0_readSoap_20 : decode cX0_readSoap 20 = .ok (.aload_n 0, 1) := by decide +kernel
theorem dX0_readSoap_21 : decode cX0_readSoap 21 = .ok (.iconst 0, 1) := by decide +kernel
theorem dX0_readSoap_22 : decode cX0_readSoap 22 = .ok (.bipush 9, 2) := by decide +kernel
theorem dX0_readSoap_24 : decode cX0_readSoap 24 = .ok (.invokevirtual 67, 3) := by decide +kernel
theorem dX0_readSoap_27 : decode cX0_readSoap 27 = .ok (.istore_n 2, 1) := by decide +kernel
theorem dX0_readSoap_28 : decode cX0_readSoap 28 = .ok (.aload_n 0, 1) := by decide +kernel
theorem dX0_readSoap_29 : decode cX0_readSoap 29 = .ok (.getstatic 84, 3) := by decide +kernel
theorem dX0_readSoap_32 : decode cX0_readSoap 32 = .ok (.invokevirtual 105, 3) := by decide +kernel
theorem dX0_readSoap_35 : decode cX0_readSoap 35 = .ok (.aload_n 0, 1) := by decide +kernel
theorem dX0_readSoap_36 : decode cX0_readSoap 36 = .ok (.iconst 1, 1) := by decide +kernel
theorem dX0_readSoap_37 : decode cX0_readSoap 37 = .ok (.bipush 30, 2) := by decide +kernel
theorem dX0_readSoap_39 : decode cX0_readSoap 39 = .ok (.invokevirtual 67, 3) := by decide +kernel
theorem dX0_readSoap_42 : decode cX0_readSoap 42 = .ok (.istore_n 3, 1) := by decide +kernel
theorem dX0_readSoap_43 : decode cX0_readSoap 43 = .ok (.aload_n 0, 1) := by decide +kernel
theorem dX0_readSoap_44 : decode cX0_readSoap 44 = .ok (.getstatic 109, 3) := by decide +kernel
theorem dX0_readSoap_47 : decode cX0_readSoap 47 = .ok (.invokevirtual 105, 3) := by decide +kernel
theorem dX0_readSoap_50 : decode cX0_readSoap 50 = .ok (.aload_n 0, 1) := by decide +kernel
theorem dX0_readSoap_51 : decode cX0_readSoap 51 = .ok (.iconst 0, 1) := by decide +kernel
theorem dX0_readSoap_52 : decode cX0_readSoap 52 = .ok (.iconst 3, 1) := by decide +kernel
theorem dX0_readSoap_53 : decode cX0_readSoap 53 = .ok (.invokevirtual 67, 3) := by decide +kernel
theorem dX0_readSoap_56 : decode cX0_readSoap 56 = .ok (.istore 4, 2) := by decide +kernel
theorem dX0_readSoap_58 : decode cX0_readSoap 58 = .ok (.aload_n 0, 1) := by decide +kernel
theorem dX0_readSoap_59 : decode cX0_readSoap 59 = .ok (.getstatic 112, 3) := by decide +kernel
theorem dX0_readSoap_62 : decode cX0_readSoap 62 = .ok (.invokevirtual 30, 3) := by decide +kernel
theorem dX0_readSoap_65 : decode cX0_readSoap 65 = .ok (.ifCond .eq 10, 3) := by decide +kernel
theorem dX0_readSoap_68 : decode cX0_readSoap 68 = .ok (.aload_n 0, 1) := by decide +kernel
theorem dX0_readSoap_69 : decode cX0_readSoap 69 = .ok (.invokevirtual 115, 3) := by decide +kernel
theorem dX0_readSoap_72 : decode cX0_readSoap 72 = .ok (.goto 4, 3) := by decide +kernel
theorem dX0_readSoap_75 : decode cX0_readSoap 75 = .ok (.iconst 0, 1) := by decide +kernel
theorem dX0_readSoap_76 : decode cX0_readSoap 76 = .ok (.istore 5, 2) := by decide +kernel
theorem dX0_readSoap_78 : decode cX0_readSoap 78 = .ok (.aload_n 1, 1) := by decide +kernel
theorem dX0_readSoap_79 : decode cX0_readSoap 79 = .ok (.iload_n 2, 1) := by decide +kernel
theorem dX0_readSoap_80 : decode cX0_readSoap 80 = .ok (.iload_n 3, 1) := by decide +kernel
theorem dX0_readSoap_81 : decode cX0_readSoap 81 = .ok (.iload 4, 2) := by decide +kernel
theorem dX0_readSoap_83 : decode cX0_readSoap 83 = .ok (.iload 5, 2) := by decide +kernel
theorem dX0_readSoap_85 : decode cX0_readSoap 85 = .ok (.invokevirtual 119, 3) := by decide +kernel
theorem dX0_readSoap_88 : decode cX0_readSoap 88 = .ok (.return_, 1) := by decide +kernel
theorem dX0_readDue_0 : decode cX0_readDue 0 = .ok (.aload_n 1, 1) := by decide +kernel
theorem dX0_readDue_1 : decode cX0_readDue 1 = .ok (.getfield 123, 3) := by decide +kernel
theorem dX0_readDue_4 : decode cX0_readDue 4 = .ok (.bipush 8, 2) := by decide +kernel
theorem dX0_readDue_6 : decode cX0_readDue 6 = .ok (.if_icmp .lt 7, 3) := by decide +kernel
theorem dX0_readDue_9 : decode cX0_readDue 9 = .ok (.aload_n 0, 1) := by decide +kernel
theorem dX0_readDue_10 : decode cX0_readDue 10 = .ok (.invokevirtual 36, 3) := by decide +kernel
theorem dX0_readDue_13 : decode cX0_readDue 13 = .ok (.aload_n 0, 1) := by decide +kernel
theorem dX0_readDue_14 : decode cX0_readDue 14 = .ok (.getstatic 45, 3) := by decide +kernel
theorem dX0_readDue_17 : decode cX0_readDue 17 = .ok (.invokevirtual 105, 3) := by decide +kernel
theorem dX0_readDue_20 : decode cX0_readDue 20 = .ok (.aload_n 0, 1) := by decide +kernel
theorem dX0_readDue_21 : decode cX0_readDue 21 = .ok (.iconst 0, 1) := by decide +kernel
theorem dX0_readDue_22 : decode cX0_readDue 22 = .ok (.sipush 999, 3) := by decide +kernel
theorem dX0_readDue_25 : decode cX0_readDue 25 = .ok (.invokevirtual 67, 3) := by decide +kernel
theorem dX0_readDue_28 : decode cX0_readDue 28 = .ok (.istore_n 2, 1) := by decide +kernel
theorem dX0_readDue_29 : decode cX0_readDue 29 = .ok (.aload_n 0, 1) := by decide +kernel
theorem dX0_readDue_30 : decode cX0_readDue 30 = .ok (.getstatic 126, 3) := by decide +kernel
theorem dX0_readDue_33 : decode cX0_readDue 33 = .ok (.invokevirtual 105, 3) := by decide +kernel
theorem dX0_readDue_36 : decode cX0_readDue 36 = .ok (.aload_n 1, 1) := by decide +kernel
theorem dX0_readDue_37 : decode cX0_readDue 37 = .ok (.iload_n 2, 1) := by decide +kernel
theorem dX0_readDue_38 : decode cX0_readDue 38 = .ok (.aload_n 0, 1) := by decide +kernel
theorem dX0_readDue_39 : decode cX0_readDue 39 = .ok (.iconst 1, 1) := by decide +kernel
theorem dX0_readDue_40 : decode cX0_readDue 40 = .ok (.bipush 99, 2) := by decide +kernel
theorem dX0_readDue_42 : decode cX0_readDue 42 = .ok (.invokevirtual 67, 3) := by decide +kernel
theorem dX0_readDue_45 : decode cX0_readDue 45 = .ok (.invokevirtual 129, 3) := by decide +kernel
theorem dX0_readDue_48 : decode cX0_readDue 48 = .ok (.return_, 1) := by decide +kernel
theorem dX0_readPart_0 : decode cX0_readPart 0 = .ok (.aload_n 0, 1) := by decide +kernel
theorem dX0_readPart_1 : decode cX0_readPart 1 = .ok (.iconst 0, 1) := by decide +kernel
theorem dX0_readPart_2 : decode cX0_readPart 2 = .ok (.bipush 7, 2) := by decide +kernel
theorem dX0_readPart_4 : decode cX0_readPart 4 = .ok (.invokevirtual 67, 3) := by decide +kernel
theorem dX0_readPart_7 : decode cX0_readPart 7 = .ok (.istore_n 2, 1) := by decide +kernel
theorem dX0_readPart_8 : decode cX0_readPart 8 = .ok (.aload_n 0, 1) := by decide +kernel
theorem dX0_readPart_9 : decode cX0_readPart 9 = .ok (.getstatic 133, 3) := by decide +kernel
theorem dX0_readPart_12 : decode cX0_readPart 12 = .ok (.invokevirtual 105, 3) := by decide +kernel
theorem dX0_readPart_15 : decode cX0_readPart 15 = .ok (.aload_n 1, 1) := by decide +kernel
theorem dX0_readPart_16 : decode cX0_readPart 16 = .ok (.getfield 136, 3) := by decide +kernel
theorem dX0_readPart_19 : decode cX0_readPart 19 = .ok (.iload_n 2, 1) := by decide +kernel
theorem dX0_readPart_20 : decode cX0_readPart 20 = .ok (.aload_n 0, 1) := by decide +kernel
theorem dX0_readPart_21 : decode cX0_readPart 21 = .ok (.iconst 0, 1) := by decide +kernel
theorem dX0_readPart_22 : decode cX0_readPart 22 = .ok (.bipush 9, 2) := by decide +kernel
theorem dX0_readPart_24 : decode cX0_readPart 24 = .ok (.invokevirtual 67, 3) := by decide +kernel
theorem dX0_readPart_27 : decode cX0_readPart 27 = .ok (.iastore, 1) := by decide +kernel
theorem dX0_readPart_28 : decode cX0_readPart 28 = .ok (.aload_n 0, 1) := by decide +kernel
theorem dX0_readPart_29 : decode cX0_readPart 29 = .ok (.getstatic 139, 3) := by decide +kernel
theorem dX0_readPart_32 : decode cX0_readPart 32 = .ok (.invokevirtual 105, 3) := by decide +kernel
theorem dX0_readPart_35 : decode cX0_readPart 35 = .ok (.aload_n 1, 1) := by decide +kernel
theorem dX0_readPart_36 : decode cX0_readPart 36 = .ok (.getfield 142, 3) := by decide +kernel
theorem dX0_readPart_39 : decode cX0_readPart 39 = .ok (.iload_n 2, 1) := by decide +kernel
theorem dX0_readPart_40 : decode cX0_readPart 40 = .ok (.aload_n 0, 1) := by decide +kernel
theorem dX0_readPart_41 : decode cX0_readPart 41 = .ok (.iconst 0, 1) := by decide +kernel
theorem dX0_readPart_42 : decode cX0_readPart 42 = .ok (.bipush 9, 2) := by decide +kernel
theorem dX0_readPart_44 : decode cX0_readPart 44 = .ok (.invokevirtual 67, 3) := by decide +kernel
theorem dX0_readPart_47 : decode cX0_readPart 47 = .ok (.iastore, 1) := by decide +kernel
theorem dX0_readPart_48 : decode cX0_readPart 48 = .ok (.aload_n 1, 1) := by decide +kernel
theorem dX0_readPart_49 : decode cX0_readPart 49 = .ok (.getfield 145, 3) := by decide +kernel
theorem dX0_readPart_52 : decode cX0_readPart 52 = .ok (.iload_n 2, 1) := by decide +kernel
theorem dX0_readPart_53 : decode cX0_readPart 53 = .ok (.aload_n 0, 1) := by decide +kernel
theorem dX0_readPart_54 : decode cX0_readPart 54 = .ok (.getstatic 148, 3) := by decide +kernel
theorem dX0_readPart_57 : decode cX0_readPart 57 = .ok (.invokevirtual 30, 3) := by decide +kernel
theorem dX0_readPart_60 : decode cX0_readPart 60 = .ok (.ifCond .eq 10, 3) := by decide +kernel
theorem dX0_readPart_63 : decode cX0_readPart 63 = .ok (.aload_n 0, 1) := by decide +kernel
theorem dX0_readPart_64 : decode cX0_readPart 64 = .ok (.invokevirtual 115, 3) := by decide +kernel
theorem dX0_readPart_67 : decode cX0_readPart 67 = .ok (.goto 4, 3) := by decide +kernel
theorem dX0_readPart_70 : decode cX0_readPart 70 = .ok (.iconst 0, 1) := by decide +kernel
theorem dX0_readPart_71 : decode cX0_readPart 71 = .ok (.iastore, 1) := by decide +kernel
theorem dX0_readPart_72 : decode cX0_readPart 72 = .ok (.return_, 1) := by decide +kernel
theorem dX1_init_0 : decode cX1_init 0 = .ok (.aload_n 0, 1) := by decide +kernel
theorem dX1_init_1 : decode cX1_init 1 = .ok (.invokespecial 3, 3) := by decide +kernel
theorem dX1_init_4 : decode cX1_init 4 = .ok (.aload_n 0, 1) := by decide +kernel
theorem dX1_init_5 : decode cX1_init 5 = .ok (.new 9, 3) := by decide +kernel
theorem dX1_init_8 : decode cX1_init 8 = .ok (.dup, 1) := by decide +kernel
theorem dX1_init_9 : decode cX1_init 9 = .ok (.invokespecial 11, 3) := by decide +kernel
theorem dX1_init_12 : decode cX1_init 12 = .ok (.putfield 12, 3) := by decide +kernel
theorem dX1_init_15 : decode cX1_init 15 = .ok (.aload_n 0, 1) := by decide +kernel
theorem dX1_init_16 : decode cX1_init 16 = .ok (.new 18, 3) := by decide +kernel
theorem dX1_init_19 : decode cX1_init 19 = .ok (.dup, 1) := by decide +kernel
theorem dX1_init_20 : decode cX1_init 20 = .ok (.invokespecial 20, 3) := by decide +kernel
theorem dX1_init_23 : decode cX1_init 23 = .ok (.putfield 21, 3) := by decide +kernel
theorem dX1_init_26 : decode cX1_init 26 = .ok (.aload_n 0, 1) := by decide +kernel
theorem dX1_init_27 : decode cX1_init 27 = .ok (.bipush 8, 2) := by decide +kernel
theorem dX1_init_29 : decode cX1_init 29 = .ok (.newarray .int, 2) := by decide +kernel
theorem dX1_init_31 : decode cX1_init 31 = .ok (.putfield 25, 3) := by decide +kernel
theorem dX1_init_34 : decode cX1_init 34 = .ok (.return_, 1) := by decide +kernel
theorem dX1_keep_0 : decode cX1_keep 0 = .ok (.aload_n 0, 1) := by decide +kernel
theorem dX1_keep_1 : decode cX1_keep 1 = .ok (.getfield 12, 3) := by decide +kernel
theorem dX1_keep_4 : decode cX1_keep 4 = .ok (.aload_n 1, 1) := by decide +kernel
theorem dX1_keep_5 : decode cX1_keep 5 = .ok (.invokevirtual 29, 3) := by decide +kernel
theorem dX1_keep_8 : decode cX1_keep 8 = .ok (.aload_n 0, 1) := by decide +kernel
theorem dX1_keep_9 : decode cX1_keep 9 = .ok (.getfield 21, 3) := by decide +kernel
theorem dX1_keep_12 : decode cX1_keep 12 = .ok (.aload_n 2, 1) := by decide +kernel
theorem dX1_keep_13 : decode cX1_keep 13 = .ok (.invokevirtual 33, 3) := by decide +kernel
theorem dX1_keep_16 : decode cX1_keep 16 = .ok (.iconst 0, 1) := by decide +kernel
theorem dX1_keep_17 : decode cX1_keep 17 = .ok (.istore_n 3, 1) := by decide +kernel
theorem dX1_keep_18 : decode cX1_keep 18 = .ok (.iload_n 3, 1) := by decide +kernel
theorem dX1_keep_19 : decode cX1_keep 19 = .ok (.bipush 8, 2) := by decide +kernel
theorem dX1_keep_21 : decode cX1_keep 21 = .ok (.if_icmp .ge 24, 3) := by decide +kernel
theorem dX1_keep_24 : decode cX1_keep 24 = .ok (.aload_n 0, 1) := by decide +kernel
theorem dX1_keep_25 : decode cX1_keep 25 = .ok (.getfield 25, 3) := by decide +kernel
theorem dX1_keep_28 : decode cX1_keep 28 = .ok (.iload_n 3, 1) := by decide +kernel
theorem dX1_keep_29 : decode cX1_keep 29 = .ok (.aload_n 2, 1) := by decide +kernel
theorem dX1_keep_30 : decode cX1_keep 30 = .ok (.aload_n 1, 1) := by decide +kernel
theorem dX1_keep_31 : decode cX1_keep 31 = .ok (.getfield 36, 3) := by decide +kernel
theorem dX1_keep_34 : decode cX1_keep 34 = .ok (.iload_n 3, 1) := by decide +kernel
theorem dX1_keep_35 : decode cX1_keep 35 = .ok (.invokevirtual 40, 3) := by decide +kernel
theorem dX1_keep_38 : decode cX1_keep 38 = .ok (.iastore, 1) := by decide +kernel
theorem dX1_keep_39 : decode cX1_keep 39 = .ok (.iinc 3 1, 3) := by decide +kernel
theorem dX1_keep_42 : decode cX1_keep 42 = .ok (.goto (-24), 3) := by decide +kernel
theorem dX1_keep_45 : decode cX1_keep 45 = .ok (.aload_n 0, 1) := by decide +kernel
theorem dX1_keep_46 : decode cX1_keep 46 = .ok (.iconst 1, 1) := by decide +kernel
theorem dX1_keep_47 : decode cX1_keep 47 = .ok (.putfield 44, 3) := by decide +kernel
theorem dX1_keep_50 : decode cX1_keep 50 = .ok (.return_, 1) := by decide +kernel
theorem dX2_init_0 : decode cX2_init 0 = .ok (.aload_n 0, 1) := by decide +kernel
theorem dX2_init_1 : decode cX2_init 1 = .ok (.invokespecial 3, 3) := by decide +kernel
theorem dX2_init_4 : decode cX2_init 4 = .ok (.aload_n 0, 1) := by decide +kernel
theorem dX2_init_5 : decode cX2_init 5 = .ok (.new 9, 3) := by decide +kernel
theorem dX2_init_8 : decode cX2_init 8 = .ok (.dup, 1) := by decide +kernel
theorem dX2_init_9 : decode cX2_init 9 = .ok (.invokespecial 11, 3) := by decide +kernel
theorem dX2_init_12 : decode cX2_init 12 = .ok (.putfield 12, 3) := by decide +kernel
theorem dX2_init_15 : decode cX2_init 15 = .ok (.aload_n 0, 1) := by decide +kernel
theorem dX2_init_16 : decode cX2_init 16 = .ok (.bipush 24, 2) := by decide +kernel
theorem dX2_init_18 : decode cX2_init 18 = .ok (.newarray .int, 2) := by decide +kernel
theorem dX2_init_20 : decode cX2_init 20 = .ok (.putfield 18, 3) := by decide +kernel
theorem dX2_init_23 : decode cX2_init 23 = .ok (.aload_n 0, 1) := by decide +kernel
theorem dX2_init_24 : decode cX2_init 24 = .ok (.bipush 16, 2) := by decide +kernel
theorem dX2_init_26 : decode cX2_init 26 = .ok (.newarray .int, 2) := by decide +kernel
theorem dX2_init_28 : decode cX2_init 28 = .ok (.putfield 22, 3) := by decide +kernel
theorem dX2_init_31 : decode cX2_init 31 = .ok (.aload_n 0, 1) := by decide +kernel
theorem dX2_init_32 : decode cX2_init 32 = .ok (.bipush 30, 2) := by decide +kernel
theorem dX2_init_34 : decode cX2_init 34 = .ok (.putfield 25, 3) := by decide +kernel
theorem dX2_init_37 : decode cX2_init 37 = .ok (.aload_n 0, 1) := by decide +kernel
theorem dX2_init_38 : decode cX2_init 38 = .ok (.iconst 5, 1) := by decide +kernel
theorem dX2_init_39 : decode cX2_init 39 = .ok (.putfield 29, 3) := by decide +kernel
theorem dX2_init_42 : decode cX2_init 42 = .ok (.aload_n 0, 1) := by decide +kernel
theorem dX2_init_43 : decode cX2_init 43 = .ok (.iconst 1, 1) := by decide +kernel
theorem dX2_init_44 : decode cX2_init 44 = .ok (.putfield 32, 3) := by decide +kernel
theorem dX2_init_47 : decode cX2_init 47 = .ok (.aload_n 0, 1) := by decide +kernel
theorem dX2_init_48 : decode cX2_init 48 = .ok (.sipush 240, 3) := by decide +kernel
theorem dX2_init_51 : decode cX2_init 51 = .ok (.newarray .int, 2) := by decide +kernel
theorem dX2_init_53 : decode cX2_init 53 = .ok (.putfield 35, 3) := by decide +kernel
theorem dX2_init_56 : decode cX2_init 56 = .ok (.return_, 1) := by decide +kernel
theorem dX2_become_0 : decode cX2_become 0 = .ok (.aload_n 0, 1) := by decide +kernel
theorem dX2_become_1 : decode cX2_become 1 = .ok (.getfield 12, 3) := by decide +kernel
theorem dX2_become_4 : decode cX2_become 4 = .ok (.aload_n 1, 1) := by decide +kernel
theorem dX2_become_5 : decode cX2_become 5 = .ok (.getfield 12, 3) := by decide +kernel
theorem dX2_become_8 : decode cX2_become 8 = .ok (.invokevirtual 38, 3) := by decide +kernel
theorem dX2_become_11 : decode cX2_become 11 = .ok (.aload_n 1, 1) := by decide +kernel
theorem dX2_become_12 : decode cX2_become 12 = .ok (.getfield 18, 3) := by decide +kernel
theorem dX2_become_15 : decode cX2_become 15 = .ok (.iconst 0, 1) := by decide +kernel
theorem dX2_become_16 : decode cX2_become 16 = .ok (.aload_n 0, 1) := by decide +kernel
theorem dX2_become_17 : decode cX2_become 17 = .ok (.getfield 18, 3) := by decide +kernel
theorem dX2_become_20 : decode cX2_become 20 = .ok (.iconst 0, 1) := by decide +kernel
theorem dX2_become_21 : decode cX2_become 21 = .ok (.aload_n 0, 1) := by decide +kernel
theorem dX2_become_22 : decode cX2_become 22 = .ok (.getfield 18, 3) := by decide +kernel
theorem dX2_become_25 : decode cX2_become 25 = .ok (.arraylength, 1) := by decide +kernel
theorem dX2_become_26 : decode cX2_become 26 = .ok (.invokestatic 42, 3) := by decide +kernel
theorem dX2_become_29 : decode cX2_become 29 = .ok (.aload_n 0, 1) := by decide +kernel
theorem dX2_become_30 : decode cX2_become 30 = .ok (.aload_n 1, 1) := by decide +kernel
theorem dX2_become_31 : decode cX2_become 31 = .ok (.getfield 48, 3) := by decide +kernel
theorem dX2_become_34 : decode cX2_become 34 = .ok (.putfield 48, 3) := by decide +kernel
theorem dX2_become_37 : decode cX2_become 37 = .ok (.aload_n 1, 1) := by decide +kernel
theorem dX2_become_38 : decode cX2_become 38 = .ok (.getfield 22, 3) := by decide +kernel
theorem dX2_become_41 : decode cX2_become 41 = .ok (.iconst 0, 1) := by decide +kernel
theorem dX2_become_42 : decode cX2_become 42 = .ok (.aload_n 0, 1) := by decide +kernel
theorem dX2_become_43 : decode cX2_become 43 = .ok (.getfield 22, 3) := by decide +kernel
theorem dX2_become_46 : decode cX2_become 46 = .ok (.iconst 0, 1) := by decide +kernel
theorem dX2_become_47 : decode cX2_become 47 = .ok (.aload_n 0, 1) := by decide +kernel
theorem dX2_become_48 : decode cX2_become 48 = .ok (.getfield 22, 3) := by decide +kernel
theorem dX2_become_51 : decode cX2_become 51 = .ok (.arraylength, 1) := by decide +kernel
theorem dX2_become_52 : decode cX2_become 52 = .ok (.invokestatic 42, 3) := by decide +kernel
theorem dX2_become_55 : decode cX2_become 55 = .ok (.aload_n 0, 1) := by decide +kernel
theorem dX2_become_56 : decode cX2_become 56 = .ok (.aload_n 1, 1) := by decide +kernel
theorem dX2_become_57 : decode cX2_become 57 = .ok (.getfield 51, 3) := by decide +kernel
theorem dX2_become_60 : decode cX2_become 60 = .ok (.putfield 51, 3) := by decide +kernel
theorem dX2_become_63 : decode cX2_become 63 = .ok (.aload_n 0, 1) := by decide +kernel
theorem dX2_become_64 : decode cX2_become 64 = .ok (.aload_n 1, 1) := by decide +kernel
theorem dX2_become_65 : decode cX2_become 65 = .ok (.getfield 54, 3) := by decide +kernel
theorem dX2_become_68 : decode cX2_become 68 = .ok (.putfield 54, 3) := by decide +kernel
theorem dX2_become_71 : decode cX2_become 71 = .ok (.aload_n 0, 1) := by decide +kernel
theorem dX2_become_72 : decode cX2_become 72 = .ok (.aload_n 1, 1) := by decide +kernel
theorem dX2_become_73 : decode cX2_become 73 = .ok (.getfield 25, 3) := by decide +kernel
theorem dX2_become_76 : decode cX2_become 76 = .ok (.putfield 25, 3) := by decide +kernel
theorem dX2_become_79 : decode cX2_become 79 = .ok (.aload_n 0, 1) := by decide +kernel
theorem dX2_become_80 : decode cX2_become 80 = .ok (.aload_n 1, 1) := by decide +kernel
theorem dX2_become_81 : decode cX2_become 81 = .ok (.getfield 29, 3) := by decide +kernel
theorem dX2_become_84 : decode cX2_become 84 = .ok (.putfield 29, 3) := by decide +kernel
theorem dX2_become_87 : decode cX2_become 87 = .ok (.aload_n 0, 1) := by decide +kernel
theorem dX2_become_88 : decode cX2_become 88 = .ok (.aload_n 1, 1) := by decide +kernel
theorem dX2_become_89 : decode cX2_become 89 = .ok (.getfield 57, 3) := by decide +kernel
theorem dX2_become_92 : decode cX2_become 92 = .ok (.putfield 57, 3) := by decide +kernel
theorem dX2_become_95 : decode cX2_become 95 = .ok (.aload_n 0, 1) := by decide +kernel
theorem dX2_become_96 : decode cX2_become 96 = .ok (.aload_n 1, 1) := by decide +kernel
theorem dX2_become_97 : decode cX2_become 97 = .ok (.getfield 60, 3) := by decide +kernel
theorem dX2_become_100 : decode cX2_become 100 = .ok (.putfield 60, 3) := by decide +kernel
theorem dX2_become_103 : decode cX2_become 103 = .ok (.aload_n 0, 1) := by decide +kernel
theorem dX2_become_104 : decode cX2_become 104 = .ok (.aload_n 1, 1) := by decide +kernel
theorem dX2_become_105 : decode cX2_become 105 = .ok (.getfield 32, 3) := by decide +kernel
theorem dX2_become_108 : decode cX2_become 108 = .ok (.putfield 32, 3) := by decide +kernel
theorem dX2_become_111 : decode cX2_become 111 = .ok (.aload_n 1, 1) := by decide +kernel
theorem dX2_become_112 : decode cX2_become 112 = .ok (.getfield 35, 3) := by decide +kernel
theorem dX2_become_115 : decode cX2_become 115 = .ok (.iconst 0, 1) := by decide +kernel
theorem dX2_become_116 : decode cX2_become 116 = .ok (.aload_n 0, 1) := by decide +kernel
theorem dX2_become_117 : decode cX2_become 117 = .ok (.getfield 35, 3) := by decide +kernel
theorem dX2_become_120 : decode cX2_become 120 = .ok (.iconst 0, 1) := by decide +kernel
theorem dX2_become_121 : decode cX2_become 121 = .ok (.aload_n 0, 1) := by decide +kernel
theorem dX2_become_122 : decode cX2_become 122 = .ok (.getfield 35, 3) := by decide +kernel
theorem dX2_become_125 : decode cX2_become 125 = .ok (.arraylength, 1) := by decide +kernel
theorem dX2_become_126 : decode cX2_become 126 = .ok (.invokestatic 42, 3) := by decide +kernel
theorem dX2_become_129 : decode cX2_become 129 = .ok (.aload_n 0, 1) := by decide +kernel
theorem dX2_become_130 : decode cX2_become 130 = .ok (.aload_n 1, 1) := by decide +kernel
theorem dX2_become_131 : decode cX2_become 131 = .ok (.getfield 63, 3) := by decide +kernel
theorem dX2_become_134 : decode cX2_become 134 = .ok (.putfield 63, 3) := by decide +kernel
theorem dX2_become_137 : decode cX2_become 137 = .ok (.return_, 1) := by decide +kernel
theorem dX2_strength_0 : decode cX2_strength 0 = .ok (.aload_n 0, 1) := by decide +kernel
theorem dX2_strength_1 : decode cX2_strength 1 = .ok (.getfield 18, 3) := by decide +kernel
theorem dX2_strength_4 : decode cX2_strength 4 = .ok (.iload_n 1, 1) := by decide +kernel
theorem dX2_strength_5 : decode cX2_strength 5 = .ok (.iconst 4, 1) := by decide +kernel
theorem dX2_strength_6 : decode cX2_strength 6 = .ok (.imul, 1) := by decide +kernel
theorem dX2_strength_7 : decode cX2_strength 7 = .ok (.iaload, 1) := by decide +kernel
theorem dX2_strength_8 : decode cX2_strength 8 = .ok (.ireturn, 1) := by decide +kernel
theorem dX2_price_0 : decode cX2_price 0 = .ok (.aload_n 0, 1) := by decide +kernel
theorem dX2_price_1 : decode cX2_price 1 = .ok (.getfield 18, 3) := by decide +kernel
theorem dX2_price_4 : decode cX2_price 4 = .ok (.iload_n 1, 1) := by decide +kernel
theorem dX2_price_5 : decode cX2_price 5 = .ok (.iconst 4, 1) := by decide +kernel
theorem dX2_price_6 : decode cX2_price 6 = .ok (.imul, 1) := by decide +kernel
theorem dX2_price_7 : decode cX2_price 7 = .ok (.iconst 1, 1) := by decide +kernel
theorem dX2_price_8 : decode cX2_price 8 = .ok (.iadd, 1) := by decide +kernel
theorem dX2_price_9 : decode cX2_price 9 = .ok (.iaload, 1) := by decide +kernel
theorem dX2_price_10 : decode cX2_price 10 = .ok (.ireturn, 1) := by decide +kernel
theorem dX2_rough_0 : decode cX2_rough 0 = .ok (.aload_n 0, 1) := by decide +kernel
theorem dX2_rough_1 : decode cX2_rough 1 = .ok (.getfield 18, 3) := by decide +kernel
theorem dX2_rough_4 : decode cX2_rough 4 = .ok (.iload_n 1, 1) := by decide +kernel
theorem dX2_rough_5 : decode cX2_rough 5 = .ok (.iconst 4, 1) := by decide +kernel
theorem dX2_rough_6 : decode cX2_rough 6 = .ok (.imul, 1) := by decide +kernel
theorem dX2_rough_7 : decode cX2_rough 7 = .ok (.iconst 2, 1) := by decide +kernel
theorem dX2_rough_8 : decode cX2_rough 8 = .ok (.iadd, 1) := by decide +kernel
theorem dX2_rough_9 : decode cX2_rough 9 = .ok (.iaload, 1) := by decide +kernel
theorem dX2_rough_10 : decode cX2_rough 10 = .ok (.ireturn, 1) := by decide +kernel
theorem dX2_takes_0 : decode cX2_takes 0 = .ok (.aload_n 0, 1) := by decide +kernel
theorem dX2_takes_1 : decode cX2_takes 1 = .ok (.getfield 18, 3) := by decide +kernel
theorem dX2_takes_4 : decode cX2_takes 4 = .ok (.iload_n 1, 1) := by decide +kernel
theorem dX2_takes_5 : decode cX2_takes 5 = .ok (.iconst 4, 1) := by decide +kernel
theorem dX2_takes_6 : decode cX2_takes 6 = .ok (.imul, 1) := by decide +kernel
theorem dX2_takes_7 : decode cX2_takes 7 = .ok (.iconst 3, 1) := by decide +kernel
theorem dX2_takes_8 : decode cX2_takes 8 = .ok (.iadd, 1) := by decide +kernel
theorem dX2_takes_9 : decode cX2_takes 9 = .ok (.iaload, 1) := by decide +kernel
theorem dX2_takes_10 : decode cX2_takes 10 = .ok (.ireturn, 1) := by decide +kernel
theorem dX2_takenBy_0 : decode cX2_takenBy 0 = .ok (.iconst 0, 1) := by decide +kernel
theorem dX2_takenBy_1 : decode cX2_takenBy 1 = .ok (.istore_n 2, 1) := by decide +kernel
theorem dX2_takenBy_2 : decode cX2_takenBy 2 = .ok (.iconst 0, 1) := by decide +kernel
theorem dX2_takenBy_3 : decode cX2_takenBy 3 = .ok (.istore_n 3, 1) := by decide +kernel
theorem dX2_takenBy_4 : decode cX2_takenBy 4 = .ok (.iload_n 3, 1) := by decide +kernel
theorem dX2_takenBy_5 : decode cX2_takenBy 5 = .ok (.aload_n 0, 1) := by decide +kernel
theorem dX2_takenBy_6 : decode cX2_takenBy 6 = .ok (.getfield 48, 3) := by decide +kernel
theorem dX2_takenBy_9 : decode cX2_takenBy 9 = .ok (.if_icmp .ge 26, 3) := by decide +kernel
theorem dX2_takenBy_12 : decode cX2_takenBy 12 = .ok (.iload_n 1, 1) := by decide +kernel
theorem dX2_takenBy_13 : decode cX2_takenBy 13 = .ok (.iload_n 3, 1) := by decide +kernel
theorem dX2_takenBy_14 : decode cX2_takenBy 14 = .ok (.ishr, 1) := by decide +kernel
theorem dX2_takenBy_15 : decode cX2_takenBy 15 = .ok (.iconst 1, 1) := by decide +kernel
theorem dX2_takenBy_16 : decode cX2_takenBy 16 = .ok (.iand, 1) := by decide +kernel
theorem dX2_takenBy_17 : decode cX2_takenBy 17 = .ok (.iconst 1, 1) := by decide +kernel
theorem dX2_takenBy_18 : decode cX2_takenBy 18 = .ok (.if_icmp .ne 11, 3) := by decide +kernel
theorem dX2_takenBy_21 : decode cX2_takenBy 21 = .ok (.iload_n 2, 1) := by decide +kernel
theorem dX2_takenBy_22 : decode cX2_takenBy 22 = .ok (.aload_n 0, 1) := by decide +kernel
theorem dX2_takenBy_23 : decode cX2_takenBy 23 = .ok (.iload_n 3, 1) := by decide +kernel
theorem dX2_takenBy_24 : decode cX2_takenBy 24 = .ok (.invokevirtual 66, 3) := by decide +kernel
theorem dX2_takenBy_27 : decode cX2_takenBy 27 = .ok (.ior, 1) := by decide +kernel
theorem dX2_takenBy_28 : decode cX2_takenBy 28 = .ok (.istore_n 2, 1) := by decide +kernel
theorem dX2_takenBy_29 : decode cX2_takenBy 29 = .ok (.iinc 3 1, 3) := by decide +kernel
theorem dX2_takenBy_32 : decode cX2_takenBy 32 = .ok (.goto (-28), 3) := by decide +kernel
theorem dX2_takenBy_35 : decode cX2_takenBy 35 = .ok (.iload_n 2, 1) := by decide +kernel
theorem dX2_takenBy_36 : decode cX2_takenBy 36 = .ok (.ireturn, 1) := by decide +kernel
theorem dX2_takenByAny_0 : decode cX2_takenByAny 0 = .ok (.aload_n 0, 1) := by decide +kernel
theorem dX2_takenByAny_1 : decode cX2_takenByAny 1 = .ok (.bipush 63, 2) := by decide +kernel
theorem dX2_takenByAny_3 : decode cX2_takenByAny 3 = .ok (.invokevirtual 70, 3) := by decide +kernel
theorem dX2_takenByAny_6 : decode cX2_takenByAny 6 = .ok (.ireturn, 1) := by decide +kernel
theorem dX2_addSoap_0 : decode cX2_addSoap 0 = .ok (.aload_n 0, 1) := by decide +kernel
theorem dX2_addSoap_1 : decode cX2_addSoap 1 = .ok (.getfield 48, 3) := by decide +kernel
theorem dX2_addSoap_4 : decode cX2_addSoap 4 = .ok (.bipush 6, 2) := by decide +kernel
theorem dX2_addSoap_6 : decode cX2_addSoap 6 = .ok (.if_icmp .ge 60, 3) := by decide +kernel
theorem dX2_addSoap_9 : decode cX2_addSoap 9 = .ok (.aload_n 0, 1) := by decide +kernel
theorem dX2_addSoap_10 : decode cX2_addSoap 10 = .ok (.getfield 48, 3) := by decide +kernel
theorem dX2_addSoap_13 : decode cX2_addSoap 13 = .ok (.iconst 4, 1) := by decide +kernel
theorem dX2_addSoap_14 : decode cX2_addSoap 14 = .ok (.imul, 1) := by decide +kernel
theorem dX2_addSoap_15 : decode cX2_addSoap 15 = .ok (.istore 5, 2) := by decide +kernel
theorem dX2_addSoap_17 : decode cX2_addSoap 17 = .ok (.aload_n 0, 1) := by decide +kernel
theorem dX2_addSoap_18 : decode cX2_addSoap 18 = .ok (.getfield 18, 3) := by decide +kernel
theorem dX2_addSoap_21 : decode cX2_addSoap 21 = .ok (.iload 5, 2) := by decide +kernel
theorem dX2_addSoap_23 : decode cX2_addSoap 23 = .ok (.iload_n 1, 1) := by decide +kernel
theorem dX2_addSoap_24 : decode cX2_addSoap 24 = .ok (.iastore, 1) := by decide +kernel
theorem dX2_addSoap_25 : decode cX2_addSoap 25 = .ok (.aload_n 0, 1) := by decide +kernel
theorem dX2_addSoap_26 : decode cX2_addSoap 26 = .ok (.getfield 18, 3) := by decide +kernel
theorem dX2_addSoap_29 : decode cX2_addSoap 29 = .ok (.iload 5, 2) := by decide +kernel
theorem dX2_addSoap_31 : decode cX2_addSoap 31 = .ok (.iconst 1, 1) := by decide +kernel
theorem dX2_addSoap_32 : decode cX2_addSoap 32 = .ok (.iadd, 1) := by decide +kernel
theorem dX2_addSoap_33 : decode cX2_addSoap 33 = .ok (.iload_n 2, 1) := by decide +kernel
theorem dX2_addSoap_34 : decode cX2_addSoap 34 = .ok (.iastore, 1) := by decide +kernel
theorem dX2_addSoap_35 : decode cX2_addSoap 35 = .ok (.aload_n 0, 1) := by decide +kernel
theorem dX2_addSoap_36 : decode cX2_addSoap 36 = .ok (.getfield 18, 3) := by decide +kernel
theorem dX2_addSoap_39 : decode cX2_addSoap 39 = .ok (.iload 5, 2) := by decide +kernel
theorem dX2_addSoap_41 : decode cX2_addSoap 41 = .ok (.iconst 2, 1) := by decide +kernel
theorem dX2_addSoap_42 : decode cX2_addSoap 42 = .ok (.iadd, 1) := by decide +kernel
theorem dX2_addSoap_43 : decode cX2_addSoap 43 = .ok (.iload_n 3, 1) := by decide +kernel
theorem dX2_addSoap_44 : decode cX2_addSoap 44 = .ok (.iastore, 1) := by decide +kernel
theorem dX2_addSoap_45 : decode cX2_addSoap 45 = .ok (.aload_n 0, 1) := by decide +kernel
theorem dX2_addSoap_46 : decode cX2_addSoap 46 = .ok (.getfield 18, 3) := by decide +kernel
theorem dX2_addSoap_49 : decode cX2_addSoap 49 = .ok (.iload 5, 2) := by decide +kernel
theorem dX2_addSoap_51 : decode cX2_addSoap 51 = .ok (.iconst 3, 1) := by decide +kernel
theorem dX2_addSoap_52 : decode cX2_addSoap 52 = .ok (.iadd, 1) := by decide +kernel
theorem dX2_addSoap_53 : decode cX2_addSoap 53 = .ok (.iload 4, 2) := by decide +kernel
theorem dX2_addSoap_55 : decode cX2_addSoap 55 = .ok (.iastore, 1) := by decide +kernel
theorem dX2_addSoap_56 : decode cX2_addSoap 56 = .ok (.aload_n 0, 1) := by decide +kernel
theorem dX2_addSoap_57 : decode cX2_addSoap 57 = .ok (.dup, 1) := by decide +kernel
theorem dX2_addSoap_58 : decode cX2_addSoap 58 = .ok (.getfield 48, 3) := by decide +kernel
theorem dX2_addSoap_61 : decode cX2_addSoap 61 = .ok (.iconst 1, 1) := by decide +kernel
theorem dX2_addSoap_62 : decode cX2_addSoap 62 = .ok (.iadd, 1) := by decide +kernel
theorem dX2_addSoap_63 : decode cX2_addSoap 63 = .ok (.putfield 48, 3) := by decide +kernel
theorem dX2_addSoap_66 : decode cX2_addSoap 66 = .ok (.return_, 1) := by decide +kernel
theorem dX2_removeSoap_0 : decode cX2_removeSoap 0 = .ok (.iload_n 1, 1) := by decide +kernel
theorem dX2_removeSoap_1 : decode cX2_removeSoap 1 = .ok (.iconst 4, 1) := by decide +kernel
theorem dX2_removeSoap_2 : decode cX2_removeSoap 2 = .ok (.imul, 1) := by decide +kernel
theorem dX2_removeSoap_3 : decode cX2_removeSoap 3 = .ok (.istore_n 2, 1) := by decide +kernel
theorem dX2_removeSoap_4 : decode cX2_removeSoap 4 = .ok (.iload_n 2, 1) := by decide +kernel
theorem dX2_removeSoap_5 : decode cX2_removeSoap 5 = .ok (.iconst 4, 1) := by decide +kernel
theorem dX2_removeSoap_6 : decode cX2_removeSoap 6 = .ok (.iadd, 1) := by decide +kernel
theorem dX2_removeSoap_7 : decode cX2_removeSoap 7 = .ok (.aload_n 0, 1) := by decide +kernel
theorem dX2_removeSoap_8 : decode cX2_removeSoap 8 = .ok (.getfield 18, 3) := by decide +kernel
theorem dX2_removeSoap_11 : decode cX2_removeSoap 11 = .ok (.arraylength, 1) := by decide +kernel
theorem dX2_removeSoap_12 : decode cX2_removeSoap 12 = .ok (.if_icmp .ge 23, 3) := by decide +kernel
theorem dX2_removeSoap_15 : decode cX2_removeSoap 15 = .ok (.aload_n 0, 1) := by decide +kernel
theorem dX2_removeSoap_16 : decode cX2_removeSoap 16 = .ok (.getfield 18, 3) := by decide +kernel
theorem dX2_removeSoap_19 : decode cX2_removeSoap 19 = .ok (.iload_n 2, 1) := by decide +kernel
theorem dX2_removeSoap_20 : decode cX2_removeSoap 20 = .ok (.aload_n 0, 1) := by decide +kernel
theorem dX2_removeSoap_21 : decode cX2_removeSoap 21 = .ok (.getfield 18, 3) := by decide +kernel
theorem dX2_removeSoap_24 : decode cX2_removeSoap 24 = .ok (.iload_n 2, 1) := by decide +kernel
theorem dX2_removeSoap_25 : decode cX2_removeSoap 25 = .ok (.iconst 4, 1) := by decide +kernel
theorem dX2_removeSoap_26 : decode cX2_removeSoap 26 = .ok (.iadd, 1) := by decide +kernel
theorem dX2_removeSoap_27 : decode cX2_removeSoap 27 = .ok (.iaload, 1) := by decide +kernel
theorem dX2_removeSoap_28 : decode cX2_removeSoap 28 = .ok (.iastore, 1) := by decide +kernel
theorem dX2_removeSoap_29 : decode cX2_removeSoap 29 = .ok (.iinc 2 1, 3) := by decide +kernel
theorem dX2_removeSoap_32 : decode cX2_removeSoap 32 = .ok (.goto (-28), 3) := by decide +kernel
theorem dX2_removeSoap_35 : decode cX2_removeSoap 35 = .ok (.aload_n 0, 1) := by decide +kernel
theorem dX2_removeSoap_36 : decode cX2_removeSoap 36 = .ok (.dup, 1) := by decide +kernel
theorem dX2_removeSoap_37 : decode cX2_removeSoap 37 = .ok (.getfield 48, 3) := by decide +kernel
theorem dX2_removeSoap_40 : decode cX2_removeSoap 40 = .ok (.iconst 1, 1) := by decide +kernel
theorem dX2_removeSoap_41 : decode cX2_removeSoap 41 = .ok (.isub, 1) := by decide +kernel
theorem dX2_removeSoap_42 : decode cX2_removeSoap 42 = .ok (.putfield 48, 3) := by decide +kernel
theorem dX2_removeSoap_45 : decode cX2_removeSoap 45 = .ok (.return_, 1) := by decide +kernel
theorem dX2_addDue_0 : decode cX2_addDue 0 = .ok (.aload_n 0, 1) := by decide +kernel
theorem dX2_addDue_1 : decode cX2_addDue 1 = .ok (.getfield 51, 3) := by decide +kernel
theorem dX2_addDue_4 : decode cX2_addDue 4 = .ok (.bipush 8, 2) := by decide +kernel
theorem dX2_addDue_6 : decode cX2_addDue 6 = .ok (.if_icmp .ge 39, 3) := by decide +kernel
theorem dX2_addDue_9 : decode cX2_addDue 9 = .ok (.aload_n 0, 1) := by decide +kernel
theorem dX2_addDue_10 : decode cX2_addDue 10 = .ok (.getfield 22, 3) := by decide +kernel
theorem dX2_addDue_13 : decode cX2_addDue 13 = .ok (.aload_n 0, 1) := by decide +kernel
theorem dX2_addDue_14 : decode cX2_addDue 14 = .ok (.getfield 51, 3) := by decide +kernel
theorem dX2_addDue_17 : decode cX2_addDue 17 = .ok (.iconst 2, 1) := by decide +kernel
theorem dX2_addDue_18 : decode cX2_addDue 18 = .ok (.imul, 1) := by decide +kernel
theorem dX2_addDue_19 : decode cX2_addDue 19 = .ok (.iload_n 1, 1) := by decide +kernel
theorem dX2_addDue_20 : decode cX2_addDue 20 = .ok (.iastore, 1) := by decide +kernel
theorem dX2_addDue_21 : decode cX2_addDue 21 = .ok (.aload_n 0, 1) := by decide +kernel
theorem dX2_addDue_22 : decode cX2_addDue 22 = .ok (.getfield 22, 3) := by decide +kernel
theorem dX2_addDue_25 : decode cX2_addDue 25 = .ok (.aload_n 0, 1) := by decide +kernel
theorem dX2_addDue_26 : decode cX2_addDue 26 = .ok (.getfield 51, 3) := by decide +kernel
theorem dX2_addDue_29 : decode cX2_addDue 29 = .ok (.iconst 2, 1) := by decide +kernel
theorem dX2_addDue_30 : decode cX2_addDue 30 = .ok (.imul, 1) := by decide +kernel
theorem dX2_addDue_31 : decode cX2_addDue 31 = .ok (.iconst 1, 1) := by decide +kernel
theorem dX2_addDue_32 : decode cX2_addDue 32 = .ok (.iadd, 1) := by decide +kernel
theorem dX2_addDue_33 : decode cX2_addDue 33 = .ok (.iload_n 2, 1) := by decide +kernel
theorem dX2_addDue_34 : decode cX2_addDue 34 = .ok (.iastore, 1) := by decide +kernel
theorem dX2_addDue_35 : decode cX2_addDue 35 = .ok (.aload_n 0, 1) := by decide +kernel
theorem dX2_addDue_36 : decode cX2_addDue 36 = .ok (.dup, 1) := by decide +kernel
theorem dX2_addDue_37 : decode cX2_addDue 37 = .ok (.getfield 51, 3) := by decide +kernel
theorem dX2_addDue_40 : decode cX2_addDue 40 = .ok (.iconst 1, 1) := by decide +kernel
theorem dX2_addDue_41 : decode cX2_addDue 41 = .ok (.iadd, 1) := by decide +kernel
theorem dX2_addDue_42 : decode cX2_addDue 42 = .ok (.putfield 51, 3) := by decide +kernel
theorem dX2_addDue_45 : decode cX2_addDue 45 = .ok (.return_, 1) := by decide +kernel
theorem dX2_dueNight_0 : decode cX2_dueNight 0 = .ok (.aload_n 0, 1) := by decide +kernel
theorem dX2_dueNight_1 : decode cX2_dueNight 1 = .ok (.getfield 22, 3) := by decide +kernel
theorem dX2_dueNight_4 : decode cX2_dueNight 4 = .ok (.iload_n 1, 1) := by decide +kernel
theorem dX2_dueNight_5 : decode cX2_dueNight 5 = .ok (.iconst 2, 1) := by decide +kernel
theorem dX2_dueNight_6 : decode cX2_dueNight 6 = .ok (.imul, 1) := by decide +kernel
theorem dX2_dueNight_7 : decode cX2_dueNight 7 = .ok (.iaload, 1) := by decide +kernel
theorem dX2_dueNight_8 : decode cX2_dueNight 8 = .ok (.ireturn, 1) := by decide +kernel
theorem dX2_dueLight_0 : decode cX2_dueLight 0 = .ok (.aload_n 0, 1) := by decide +kernel
theorem dX2_dueLight_1 : decode cX2_dueLight 1 = .ok (.getfield 22, 3) := by decide +kernel
theorem dX2_dueLight_4 : decode cX2_dueLight 4 = .ok (.iload_n 1, 1) := by decide +kernel
theorem dX2_dueLight_5 : decode cX2_dueLight 5 = .ok (.iconst 2, 1) := by decide +kernel
theorem dX2_dueLight_6 : decode cX2_dueLight 6 = .ok (.imul, 1) := by decide +kernel
theorem dX2_dueLight_7 : decode cX2_dueLight 7 = .ok (.iconst 1, 1) := by decide +kernel
theorem dX2_dueLight_8 : decode cX2_dueLight 8 = .ok (.iadd, 1) := by decide +kernel
theorem dX2_dueLight_9 : decode cX2_dueLight 9 = .ok (.iaload, 1) := by decide +kernel
theorem dX2_dueLight_10 : decode cX2_dueLight 10 = .ok (.ireturn, 1) := by decide +kernel
theorem dX2_addLog_0 : decode cX2_addLog 0 = .ok (.aload_n 0, 1) := by decide +kernel
theorem dX2_addLog_1 : decode cX2_addLog 1 = .ok (.getfield 63, 3) := by decide +kernel
theorem dX2_addLog_4 : decode cX2_addLog 4 = .ok (.bipush 60, 2) := by decide +kernel
theorem dX2_addLog_6 : decode cX2_addLog 6 = .ok (.irem, 1) := by decide +kernel
theorem dX2_addLog_7 : decode cX2_addLog 7 = .ok (.iconst 4, 1) := by decide +kernel
theorem dX2_addLog_8 : decode cX2_addLog 8 = .ok (.imul, 1) := by decide +kernel
theorem dX2_addLog_9 : decode cX2_addLog 9 = .ok (.istore 4, 2) := by decide +kernel
theorem dX2_addLog_11 : decode cX2_addLog 11 = .ok (.aload_n 0, 1) := by decide +kernel
theorem dX2_addLog_12 : decode cX2_addLog 12 = .ok (.getfield 35, 3) := by decide +kernel
theorem dX2_addLog_15 : decode cX2_addLog 15 = .ok (.iload 4, 2) := by decide +kernel
theorem dX2_addLog_17 : decode cX2_addLog 17 = .ok (.aload_n 0, 1) := by decide +kernel
theorem dX2_addLog_18 : decode cX2_addLog 18 = .ok (.getfield 12, 3) := by decide +kernel
theorem dX2_addLog_21 : decode cX2_addLog 21 = .ok (.getfield 73, 3) := by decide +kernel
theorem dX2_addLog_24 : decode cX2_addLog 24 = .ok (.iastore, 1) := by decide +kernel
theorem dX2_addLog_25 : decode cX2_addLog 25 = .ok (.aload_n 0, 1) := by decide +kernel
theorem dX2_addLog_26 : decode cX2_addLog 26 = .ok (.getfield 35, 3) := by decide +kernel
theorem dX2_addLog_29 : decode cX2_addLog 29 = .ok (.iload 4, 2) := by decide +kernel
theorem dX2_addLog_31 : decode cX2_addLog 31 = .ok (.iconst 1, 1) := by decide +kernel
theorem dX2_addLog_32 : decode cX2_addLog 32 = .ok (.iadd, 1) := by decide +kernel
theorem dX2_addLog_33 : decode cX2_addLog 33 = .ok (.iload_n 1, 1) := by decide +kernel
theorem dX2_addLog_34 : decode cX2_addLog 34 = .ok (.iastore, 1) := by decide +kernel
theorem dX2_addLog_35 : decode cX2_addLog 35 = .ok (.aload_n 0, 1) := by decide +kernel
theorem dX2_addLog_36 : decode cX2_addLog 36 = .ok (.getfield 35, 3) := by decide +kernel
theorem dX2_addLog_39 : decode cX2_addLog 39 = .ok (.iload 4, 2) := by decide +kernel
theorem dX2_addLog_41 : decode cX2_addLog 41 = .ok (.iconst 2, 1) := by decide +kernel
theorem dX2_addLog_42 : decode cX2_addLog 42 = .ok (.iadd, 1) := by decide +kernel
theorem dX2_addLog_43 : decode cX2_addLog 43 = .ok (.iload_n 2, 1) := by decide +kernel
theorem dX2_addLog_44 : decode cX2_addLog 44 = .ok (.iastore, 1) := by decide +kernel
theorem dX2_addLog_45 : decode cX2_addLog 45 = .ok (.aload_n 0, 1) := by decide +kernel
theorem dX2_addLog_46 : decode cX2_addLog 46 = .ok (.getfield 35, 3) := by decide +kernel
theorem dX2_addLog_49 : decode cX2_addLog 49 = .ok (.iload 4, 2) := by decide +kernel
theorem dX2_addLog_51 : decode cX2_addLog 51 = .ok (.iconst 3, 1) := by decide +kernel
theorem dX2_addLog_52 : decode cX2_addLog 52 = .ok (.iadd, 1) := by decide +kernel
theorem dX2_addLog_53 : decode cX2_addLog 53 = .ok (.iload_n 3, 1) := by decide +kernel
theorem dX2_addLog_54 : decode cX2_addLog 54 = .ok (.iastore, 1) := by decide +kernel
theorem dX2_addLog_55 : decode cX2_addLog 55 = .ok (.aload_n 0, 1) := by decide +kernel
theorem dX2_addLog_56 : decode cX2_addLog 56 = .ok (.dup, 1) := by decide +kernel
theorem dX2_addLog_57 : decode cX2_addLog 57 = .ok (.getfield 63, 3) := by decide +kernel
theorem dX2_addLog_60 : decode cX2_addLog 60 = .ok (.iconst 1, 1) := by decide +kernel
theorem dX2_addLog_61 : decode cX2_addLog 61 = .ok (.iadd, 1) := by decide +kernel
theorem dX2_addLog_62 : decode cX2_addLog 62 = .ok (.putfield 63, 3) := by decide +kernel
theorem dX2_addLog_65 : decode cX2_addLog 65 = .ok (.return_, 1) := by decide +kernel
theorem dX2_logSize_0 : decode cX2_logSize 0 = .ok (.aload_n 0, 1) := by decide +kernel
theorem dX2_logSize_1 : decode cX2_logSize 1 = .ok (.getfield 63, 3) := by decide +kernel
theorem dX2_logSize_4 : decode cX2_logSize 4 = .ok (.bipush 60, 2) := by decide +kernel
theorem dX2_logSize_6 : decode cX2_logSize 6 = .ok (.invokestatic 76, 3) := by decide +kernel
theorem dX2_logSize_9 : decode cX2_logSize 9 = .ok (.ireturn, 1) := by decide +kernel
theorem dX2_logged_0 : decode cX2_logged 0 = .ok (.aload_n 0, 1) := by decide +kernel
theorem dX2_logged_1 : decode cX2_logged 1 = .ok (.getfield 63, 3) := by decide +kernel
theorem dX2_logged_4 : decode cX2_logged 4 = .ok (.iconst 1, 1) := by decide +kernel
theorem dX2_logged_5 : decode cX2_logged 5 = .ok (.isub, 1) := by decide +kernel
theorem dX2_logged_6 : decode cX2_logged 6 = .ok (.iload_n 1, 1) := by decide +kernel
theorem dX2_logged_7 : decode cX2_logged 7 = .ok (.isub, 1) := by decide +kernel
theorem dX2_logged_8 : decode cX2_logged 8 = .ok (.bipush 60, 2) := by decide +kernel
theorem dX2_logged_10 : decode cX2_logged 10 = .ok (.irem, 1) := by decide +kernel
theorem dX2_logged_11 : decode cX2_logged 11 = .ok (.istore_n 3, 1) := by decide +kernel
theorem dX2_logged_12 : decode cX2_logged 12 = .ok (.aload_n 0, 1) := by decide +kernel
theorem dX2_logged_13 : decode cX2_logged 13 = .ok (.getfield 35, 3) := by decide +kernel
theorem dX2_logged_16 : decode cX2_logged 16 = .ok (.iload_n 3, 1) := by decide +kernel
theorem dX2_logged_17 : decode cX2_logged 17 = .ok (.iconst 4, 1) := by decide +kernel
theorem dX2_logged_18 : decode cX2_logged 18 = .ok (.imul, 1) := by decide +kernel
theorem dX2_logged_19 : decode cX2_logged 19 = .ok (.iload_n 2, 1) := by decide +kernel
theorem dX2_logged_20 : decode cX2_logged 20 = .ok (.iadd, 1) := by decide +kernel
theorem dX2_logged_21 : decode cX2_logged 21 = .ok (.iaload, 1) := by decide +kernel
theorem dX2_logged_22 : decode cX2_logged 22 = .ok (.ireturn, 1) := by decide +kernel
theorem dX2_draw_0 : decode cX2_draw 0 = .ok (.aload_n 0, 1) := by decide +kernel
theorem dX2_draw_1 : decode cX2_draw 1 = .ok (.ldc 82, 2) := by decide +kernel
theorem dX2_draw_3 : decode cX2_draw 3 = .ok (.aload_n 0, 1) := by decide +kernel
theorem dX2_draw_4 : decode cX2_draw 4 = .ok (.getfield 32, 3) := by decide +kernel
theorem dX2_draw_7 : decode cX2_draw 7 = .ok (.imul, 1) := by decide +kernel
theorem dX2_draw_8 : decode cX2_draw 8 = .ok (.sipush 12345, 3) := by decide +kernel
theorem dX2_draw_11 : decode cX2_draw 11 = .ok (.iadd, 1) := by decide +kernel
theorem dX2_draw_12 : decode cX2_draw 12 = .ok (.putfield 32, 3) := by decide +kernel
theorem dX2_draw_15 : decode cX2_draw 15 = .ok (.aload_n 0, 1) := by decide +kernel
theorem dX2_draw_16 : decode cX2_draw 16 = .ok (.getfield 32, 3) := by decide +kernel
theorem dX2_draw_19 : decode cX2_draw 19 = .ok (.bipush 16, 2) := by decide +kernel
theorem dX2_draw_21 : decode cX2_draw 21 = .ok (.iushr, 1) := by decide +kernel
theorem dX2_draw_22 : decode cX2_draw 22 = .ok (.sipush 32767, 3) := by decide +kernel
theorem dX2_draw_25 : decode cX2_draw 25 = .ok (.iand, 1) := by decide +kernel
theorem dX2_draw_26 : decode cX2_draw 26 = .ok (.ireturn, 1) := by decide +kernel
theorem dX2_oneNight_0 : decode cX2_oneNight 0 = .ok (.aload_n 0, 1) := by decide +kernel
theorem dX2_oneNight_1 : decode cX2_oneNight 1 = .ok (.getfield 12, 3) := by decide +kernel
theorem dX2_oneNight_4 : decode cX2_oneNight 4 = .ok (.aload_n 0, 1) := by decide +kernel
theorem dX2_oneNight_5 : decode cX2_oneNight 5 = .ok (.invokevirtual 83, 3) := by decide +kernel
theorem dX2_oneNight_8 : decode cX2_oneNight 8 = .ok (.bipush 10, 2) := by decide +kernel
theorem dX2_oneNight_10 : decode cX2_oneNight 10 = .ok (.irem, 1) := by decide +kernel
theorem dX2_oneNight_11 : decode cX2_oneNight 11 = .ok (.putfield 87, 3) := by decide +kernel
theorem dX2_oneNight_14 : decode cX2_oneNight 14 = .ok (.aload_n 0, 1) := by decide +kernel
theorem dX2_oneNight_15 : decode cX2_oneNight 15 = .ok (.getfield 12, 3) := by decide +kernel
theorem dX2_oneNight_18 : decode cX2_oneNight 18 = .ok (.aload_n 1, 1) := by decide +kernel
theorem dX2_oneNight_19 : decode cX2_oneNight 19 = .ok (.invokevirtual 90, 3) := by decide +kernel
theorem dX2_oneNight_22 : decode cX2_oneNight 22 = .ok (.istore_n 2, 1) := by decide +kernel
theorem dX2_oneNight_23 : decode cX2_oneNight 23 = .ok (.aload_n 0, 1) := by decide +kernel
theorem dX2_oneNight_24 : decode cX2_oneNight 24 = .ok (.invokevirtual 83, 3) := by decide +kernel
theorem dX2_oneNight_27 : decode cX2_oneNight 27 = .ok (.bipush 100, 2) := by decide +kernel
theorem dX2_oneNight_29 : decode cX2_oneNight 29 = .ok (.irem, 1) := by decide +kernel
theorem dX2_oneNight_30 : decode cX2_oneNight 30 = .ok (.aload_n 0, 1) := by decide +kernel
theorem dX2_oneNight_31 : decode cX2_oneNight 31 = .ok (.getfield 57, 3) := by decide +kernel
theorem dX2_oneNight_34 : decode cX2_oneNight 34 = .ok (.if_icmp .ge 46, 3) := by decide +kernel
theorem dX2_oneNight_37 : decode cX2_oneNight 37 = .ok (.aload_n 0, 1) := by decide +kernel
theorem dX2_oneNight_38 : decode cX2_oneNight 38 = .ok (.invokevirtual 83, 3) := by decide +kernel
theorem dX2_oneNight_41 : decode cX2_oneNight 41 = .ok (.bipush 8, 2) := by decide +kernel
theorem dX2_oneNight_43 : decode cX2_oneNight 43 = .ok (.irem, 1) := by decide +kernel
theorem dX2_oneNight_44 : decode cX2_oneNight 44 = .ok (.istore_n 3, 1) := by decide +kernel
theorem dX2_oneNight_45 : decode cX2_oneNight 45 = .ok (.aload_n 0, 1) := by decide +kernel
theorem dX2_oneNight_46 : decode cX2_oneNight 46 = .ok (.invokevirtual 83, 3) := by decide +kernel
theorem dX2_oneNight_49 : decode cX2_oneNight 49 = .ok (.iconst 5, 1) := by decide +kernel
theorem dX2_oneNight_50 : decode cX2_oneNight 50 = .ok (.irem, 1) := by decide +kernel
theorem dX2_oneNight_51 : decode cX2_oneNight 51 = .ok (.istore 4, 2) := by decide +kernel
theorem dX2_oneNight_53 : decode cX2_oneNight 53 = .ok (.aload_n 0, 1) := by decide +kernel
theorem dX2_oneNight_54 : decode cX2_oneNight 54 = .ok (.getfield 12, 3) := by decide +kernel
theorem dX2_oneNight_57 : decode cX2_oneNight 57 = .ok (.iload_n 3, 1) := by decide +kernel
theorem dX2_oneNight_58 : decode cX2_oneNight 58 = .ok (.invokevirtual 94, 3) := by decide +kernel
theorem dX2_oneNight_61 : decode cX2_oneNight 61 = .ok (.ifCond .eq 19, 3) := by decide +kernel
theorem dX2_oneNight_64 : decode cX2_oneNight 64 = .ok (.aload_n 0, 1) := by decide +kernel
theorem dX2_oneNight_65 : decode cX2_oneNight 65 = .ok (.getfield 12, 3) := by decide +kernel
theorem dX2_oneNight_68 : decode cX2_oneNight 68 = .ok (.getfield 98, 3) := by decide +kernel
theorem dX2_oneNight_71 : decode cX2_oneNight 71 = .ok (.iload_n 3, 1) := by decide +kernel
theorem dX2_oneNight_72 : decode cX2_oneNight 72 = .ok (.dup2, 1) := by decide +kernel
theorem dX2_oneNight_73 : decode cX2_oneNight 73 = .ok (.iaload, 1) := by decide +kernel
theorem dX2_oneNight_74 : decode cX2_oneNight 74 = .ok (.iconst 1, 1) := by decide +kernel
theorem dX2_oneNight_75 : decode cX2_oneNight 75 = .ok (.iload 4, 2) := by decide +kernel
theorem dX2_oneNight_77 : decode cX2_oneNight 77 = .ok (.ishl, 1) := by decide +kernel
theorem dX2_oneNight_78 : decode cX2_oneNight 78 = .ok (.ior, 1) := by decide +kernel
theorem dX2_oneNight_79 : decode cX2_oneNight 79 = .ok (.iastore, 1) := by decide +kernel
theorem dX2_oneNight_80 : decode cX2_oneNight 80 = .ok (.aload_n 0, 1) := by decide +kernel
theorem dX2_oneNight_81 : decode cX2_oneNight 81 = .ok (.invokevirtual 83, 3) := by decide +kernel
theorem dX2_oneNight_84 : decode cX2_oneNight 84 = .ok (.bipush 100, 2) := by decide +kernel
theorem dX2_oneNight_86 : decode cX2_oneNight 86 = .ok (.irem, 1) := by decide +kernel
theorem dX2_oneNight_87 : decode cX2_oneNight 87 = .ok (.aload_n 0, 1) := by decide +kernel
theorem dX2_oneNight_88 : decode cX2_oneNight 88 = .ok (.getfield 60, 3) := by decide +kernel
theorem dX2_oneNight_91 : decode cX2_oneNight 91 = .ok (.if_icmp .ge 42, 3) := by decide +kernel
theorem dX2_oneNight_94 : decode cX2_oneNight 94 = .ok (.aload_n 0, 1) := by decide +kernel
theorem dX2_oneNight_95 : decode cX2_oneNight 95 = .ok (.invokevirtual 83, 3) := by decide +kernel
theorem dX2_oneNight_98 : decode cX2_oneNight 98 = .ok (.bipush 8, 2) := by decide +kernel
theorem dX2_oneNight_100 : decode cX2_oneNight 100 = .ok (.irem, 1) := by decide +kernel
theorem dX2_oneNight_101 : decode cX2_oneNight 101 = .ok (.istore_n 3, 1) := by decide +kernel
theorem dX2_oneNight_102 : decode cX2_oneNight 102 = .ok (.aload_n 0, 1) := by decide +kernel
theorem dX2_oneNight_103 : decode cX2_oneNight 103 = .ok (.getfield 12, 3) := by decide +kernel
theorem dX2_oneNight_106 : decode cX2_oneNight 106 = .ok (.iload_n 3, 1) := by decide +kernel
theorem dX2_oneNight_107 : decode cX2_oneNight 107 = .ok (.invokevirtual 94, 3) := by decide +kernel
theorem dX2_oneNight_110 : decode cX2_oneNight 110 = .ok (.ifCond .eq 23, 3) := by decide +kernel
theorem dX2_oneNight_113 : decode cX2_oneNight 113 = .ok (.aload_n 0, 1) := by decide +kernel
theorem dX2_oneNight_114 : decode cX2_oneNight 114 = .ok (.getfield 12, 3) := by decide +kernel
theorem dX2_oneNight_117 : decode cX2_oneNight 117 = .ok (.iload_n 3, 1) := by decide +kernel
theorem dX2_oneNight_118 : decode cX2_oneNight 118 = .ok (.iconst 0, 1) := by decide +kernel
theorem dX2_oneNight_119 : decode cX2_oneNight 119 = .ok (.invokevirtual 101, 3) := by decide +kernel
theorem dX2_oneNight_122 : decode cX2_oneNight 122 = .ok (.aload_n 0, 1) := by decide +kernel
theorem dX2_oneNight_123 : decode cX2_oneNight 123 = .ok (.getfield 12, 3) := by decide +kernel
theorem dX2_oneNight_126 : decode cX2_oneNight 126 = .ok (.getfield 105, 3) := by decide +kernel
theorem dX2_oneNight_129 : decode cX2_oneNight 129 = .ok (.iload_n 3, 1) := by decide +kernel
theorem dX2_oneNight_130 : decode cX2_oneNight 130 = .ok (.bipush 9, 2) := by decide +kernel
theorem dX2_oneNight_132 : decode cX2_oneNight 132 = .ok (.iastore, 1) := by decide +kernel
theorem dX2_oneNight_133 : decode cX2_oneNight 133 = .ok (.aload_n 0, 1) := by decide +kernel
theorem dX2_oneNight_134 : decode cX2_oneNight 134 = .ok (.bipush 99, 2) := by decide +kernel
theorem dX2_oneNight_136 : decode cX2_oneNight 136 = .ok (.aload_n 0, 1) := by decide +kernel
theorem dX2_oneNight_137 : decode cX2_oneNight 137 = .ok (.getfield 25, 3) := by decide +kernel
theorem dX2_oneNight_140 : decode cX2_oneNight 140 = .ok (.aload_n 0, 1) := by decide +kernel
theorem dX2_oneNight_141 : decode cX2_oneNight 141 = .ok (.getfield 29, 3) := by decide +kernel
theorem dX2_oneNight_144 : decode cX2_oneNight 144 = .ok (.iadd, 1) := by decide +kernel
theorem dX2_oneNight_145 : decode cX2_oneNight 145 = .ok (.invokestatic 76, 3) := by decide +kernel
theorem dX2_oneNight_148 : decode cX2_oneNight 148 = .ok (.putfield 25, 3) := by decide +kernel
theorem dX2_oneNight_151 : decode cX2_oneNight 151 = .ok (.aload_n 0, 1) := by decide +kernel
theorem dX2_oneNight_152 : decode cX2_oneNight 152 = .ok (.getfield 12, 3) := by decide +kernel
theorem dX2_oneNight_155 : decode cX2_oneNight 155 = .ok (.dup, 1) := by decide +kernel
theorem dX2_oneNight_156 : decode cX2_oneNight 156 = .ok (.getfield 73, 3) := by decide +kernel
theorem dX2_oneNight_159 : decode cX2_oneNight 159 = .ok (.iconst 1, 1) := by decide +kernel
theorem dX2_oneNight_160 : decode cX2_oneNight 160 = .ok (.iadd, 1) := by decide +kernel
theorem dX2_oneNight_161 : decode cX2_oneNight 161 = .ok (.putfield 73, 3) := by decide +kernel
theorem dX2_oneNight_164 : decode cX2_oneNight 164 = .ok (.iload_n 2, 1) := by decide +kernel
theorem dX2_oneNight_165 : decode cX2_oneNight 165 = .ok (.ireturn, 1) := by decide +kernel
theorem dX3_init_0 : decode cX3_init 0 = .ok (.aload_n 0, 1) := by decide +kernel
theorem dX3_init_1 : decode cX3_init 1 = .ok (.invokespecial 3, 3) := by decide +kernel
theorem dX3_init_4 : decode cX3_init 4 = .ok (.aload_n 0, 1) := by decide +kernel
theorem dX3_init_5 : decode cX3_init 5 = .ok (.iconst (-1), 1) := by decide +kernel
theorem dX3_init_6 : decode cX3_init 6 = .ok (.putfield 9, 3) := by decide +kernel
theorem dX3_init_9 : decode cX3_init 9 = .ok (.aload_n 0, 1) := by decide +kernel
theorem dX3_init_10 : decode cX3_init 10 = .ok (.bipush 12, 2) := by decide +kernel
theorem dX3_init_12 : decode cX3_init 12 = .ok (.newarray .int, 2) := by decide +kernel
theorem dX3_init_14 : decode cX3_init 14 = .ok (.putfield 15, 3) := by decide +kernel
theorem dX3_init_17 : decode cX3_init 17 = .ok (.aload_n 0, 1) := by decide +kernel
theorem dX3_init_18 : decode cX3_init 18 = .ok (.bipush 12, 2) := by decide +kernel
theorem dX3_init_20 : decode cX3_init 20 = .ok (.newarray .int, 2) := by decide +kernel
theorem dX3_init_22 : decode cX3_init 22 = .ok (.putfield 19, 3) := by decide +kernel
theorem dX3_init_25 : decode cX3_init 25 = .ok (.aload_n 0, 1) := by decide +kernel
theorem dX3_init_26 : decode cX3_init 26 = .ok (.bipush 12, 2) := by decide +kernel
theorem dX3_init_28 : decode cX3_init 28 = .ok (.newarray .int, 2) := by decide +kernel
theorem dX3_init_30 : decode cX3_init 30 = .ok (.putfield 22, 3) := by decide +kernel
theorem dX3_init_33 : decode cX3_init 33 = .ok (.aload_n 0, 1) := by decide +kernel
theorem dX3_init_34 : decode cX3_init 34 = .ok (.sipush 400, 3) := by decide +kernel
theorem dX3_init_37 : decode cX3_init 37 = .ok (.newarray .int, 2) := by decide +kernel
theorem dX3_init_39 : decode cX3_init 39 = .ok (.putfield 25, 3) := by decide +kernel
theorem dX3_init_42 : decode cX3_init 42 = .ok (.aload_n 0, 1) := by decide +kernel
theorem dX3_init_43 : decode cX3_init 43 = .ok (.bipush 10, 2) := by decide +kernel
theorem dX3_init_45 : decode cX3_init 45 = .ok (.newarray .int, 2) := by decide +kernel
theorem dX3_init_47 : decode cX3_init 47 = .ok (.putfield 28, 3) := by decide +kernel
theorem dX3_init_50 : decode cX3_init 50 = .ok (.aload_n 0, 1) := by decide +kernel
theorem dX3_init_51 : decode cX3_init 51 = .ok (.bipush 32, 2) := by decide +kernel
theorem dX3_init_53 : decode cX3_init 53 = .ok (.newarray .int, 2) := by decide +kernel
theorem dX3_init_55 : decode cX3_init 55 = .ok (.putfield 31, 3) := by decide +kernel
theorem dX3_init_58 : decode cX3_init 58 = .ok (.return_, 1) := by decide +kernel
theorem dX3_clear_0 : decode cX3_clear 0 = .ok (.aload_n 0, 1) := by decide +kernel
theorem dX3_clear_1 : decode cX3_clear 1 = .ok (.iconst 0, 1) := by decide +kernel
theorem dX3_clear_2 : decode cX3_clear 2 = .ok (.putfield 9, 3) := by decide +kernel
theorem dX3_clear_5 : decode cX3_clear 5 = .ok (.aload_n 0, 1) := by decide +kernel
theorem dX3_clear_6 : decode cX3_clear 6 = .ok (.iconst 0, 1) := by decide +kernel
theorem dX3_clear_7 : decode cX3_clear 7 = .ok (.putfield 34, 3) := by decide +kernel
theorem dX3_clear_10 : decode cX3_clear 10 = .ok (.return_, 1) := by decide +kernel
theorem dX3_addStep_0 : decode cX3_addStep 0 = .ok (.aload_n 0, 1) := by decide +kernel
theorem dX3_addStep_1 : decode cX3_addStep 1 = .ok (.getfield 34, 3) := by decide +kernel
theorem dX3_addStep_4 : decode cX3_addStep 4 = .ok (.aload_n 0, 1) := by decide +kernel
theorem dX3_addStep_5 : decode cX3_addStep 5 = .ok (.getfield 25, 3) := by decide +kernel
theorem dX3_addStep_8 : decode cX3_addStep 8 = .ok (.arraylength, 1) := by decide +kernel
theorem dX3_addStep_9 : decode cX3_addStep 9 = .ok (.if_icmp .ge 23, 3) := by decide +kernel
theorem dX3_addStep_12 : decode cX3_addStep 12 = .ok (.aload_n 0, 1) := by decide +kernel
theorem dX3_addStep_13 : decode cX3_addStep 13 = .ok (.getfield 25, 3) := by decide +kernel
theorem dX3_addStep_16 : decode cX3_addStep 16 = .ok (.aload_n 0, 1) := by decide +kernel
theorem dX3_addStep_17 : decode cX3_addStep 17 = .ok (.getfield 34, 3) := by decide +kernel
theorem dX3_addStep_20 : decode cX3_addStep 20 = .ok (.iload_n 1, 1) := by decide +kernel
theorem dX3_addStep_21 : decode cX3_addStep 21 = .ok (.iastore, 1) := by decide +kernel
theorem dX3_addStep_22 : decode cX3_addStep 22 = .ok (.aload_n 0, 1) := by decide +kernel
theorem dX3_addStep_23 : decode cX3_addStep 23 = .ok (.dup, 1) := by decide +kernel
theorem dX3_addStep_24 : decode cX3_addStep 24 = .ok (.getfield 34, 3) := by decide +kernel
theorem dX3_addStep_27 : decode cX3_addStep 27 = .ok (.iconst 1, 1) := by decide +kernel
theorem dX3_addStep_28 : decode cX3_addStep 28 = .ok (.iadd, 1) := by decide +kernel
theorem dX3_addStep_29 : decode cX3_addStep 29 = .ok (.putfield 34, 3) := by decide +kernel
theorem dX3_addStep_32 : decode cX3_addStep 32 = .ok (.return_, 1) := by decide +kernel
theorem dX3_addLine_0 : decode cX3_addLine 0 = .ok (.aload_n 0, 1) := by decide +kernel
theorem dX3_addLine_1 : decode cX3_addLine 1 = .ok (.getfield 9, 3) := by decide +kernel
theorem dX3_addLine_4 : decode cX3_addLine 4 = .ok (.ifCond .lt 55, 3) := by decide +kernel
theorem dX3_addLine_7 : decode cX3_addLine 7 = .ok (.aload_n 0, 1) := by decide +kernel
theorem dX3_addLine_8 : decode cX3_addLine 8 = .ok (.getfield 9, 3) := by decide +kernel
theorem dX3_addLine_11 : decode cX3_addLine 11 = .ok (.bipush 12, 2) := by decide +kernel
theorem dX3_addLine_13 : decode cX3_addLine 13 = .ok (.if_icmp .ge 46, 3) := by decide +kernel
theorem dX3_addLine_16 : decode cX3_addLine 16 = .ok (.aload_n 0, 1) := by decide +kernel
theorem dX3_addLine_17 : decode cX3_addLine 17 = .ok (.getfield 15, 3) := by decide +kernel
theorem dX3_addLine_20 : decode cX3_addLine 20 = .ok (.aload_n 0, 1) := by decide +kernel
theorem dX3_addLine_21 : decode cX3_addLine 21 = .ok (.getfield 9, 3) := by decide +kernel
theorem dX3_addLine_24 : decode cX3_addLine 24 = .ok (.iload_n 1, 1) := by decide +kernel
theorem dX3_addLine_25 : decode cX3_addLine 25 = .ok (.iastore, 1) := by decide +kernel
theorem dX3_addLine_26 : decode cX3_addLine 26 = .ok (.aload_n 0, 1) := by decide +kernel
theorem dX3_addLine_27 : decode cX3_addLine 27 = .ok (.getfield 19, 3) := by decide +kernel
theorem dX3_addLine_30 : decode cX3_addLine 30 = .ok (.aload_n 0, 1) := by decide +kernel
theorem dX3_addLine_31 : decode cX3_addLine 31 = .ok (.getfield 9, 3) := by decide +kernel
theorem dX3_addLine_34 : decode cX3_addLine 34 = .ok (.iload_n 2, 1) := by decide +kernel
theorem dX3_addLine_35 : decode cX3_addLine 35 = .ok (.iastore, 1) := by decide +kernel
theorem dX3_addLine_36 : decode cX3_addLine 36 = .ok (.aload_n 0, 1) := by decide +kernel
theorem dX3_addLine_37 : decode cX3_addLine 37 = .ok (.getfield 22, 3) := by decide +kernel
theorem dX3_addLine_40 : decode cX3_addLine 40 = .ok (.aload_n 0, 1) := by decide +kernel
theorem dX3_addLine_41 : decode cX3_addLine 41 = .ok (.getfield 9, 3) := by decide +kernel
theorem dX3_addLine_44 : decode cX3_addLine 44 = .ok (.aload_n 0, 1) := by decide +kernel
theorem dX3_addLine_45 : decode cX3_addLine 45 = .ok (.getfield 34, 3) := by decide +kernel
theorem dX3_addLine_48 : decode cX3_addLine 48 = .ok (.iastore, 1) := by decide +kernel
theorem dX3_addLine_49 : decode cX3_addLine 49 = .ok (.aload_n 0, 1) := by decide +kernel
theorem dX3_addLine_50 : decode cX3_addLine 50 = .ok (.dup, 1) := by decide +kernel
theorem dX3_addLine_51 : decode cX3_addLine 51 = .ok (.getfield 9, 3) := by decide +kernel
theorem dX3_addLine_54 : decode cX3_addLine 54 = .ok (.iconst 1, 1) := by decide +kernel
theorem dX3_addLine_55 : decode cX3_addLine 55 = .ok (.iadd, 1) := by decide +kernel
theorem dX3_addLine_56 : decode cX3_addLine 56 = .ok (.putfield 9, 3) := by decide +kernel
theorem dX3_addLine_59 : decode cX3_addLine 59 = .ok (.return_, 1) := by decide +kernel
theorem dX3_become_0 : decode cX3_become 0 = .ok (.aload_n 0, 1) := by decide +kernel
theorem dX3_become_1 : decode cX3_become 1 = .ok (.aload_n 1, 1) := by decide +kernel
theorem dX3_become_2 : decode cX3_become 2 = .ok (.getfield 9, 3) := by decide +kernel
theorem dX3_become_5 : decode cX3_become 5 = .ok (.putfield 9, 3) := by decide +kernel
theorem dX3_become_8 : decode cX3_become 8 = .ok (.aload_n 0, 1) := by decide +kernel
theorem dX3_become_9 : decode cX3_become 9 = .ok (.aload_n 1, 1) := by decide +kernel
theorem dX3_become_10 : decode cX3_become 10 = .ok (.getfield 34, 3) := by decide +kernel
theorem dX3_become_13 : decode cX3_become 13 = .ok (.putfield 34, 3) := by decide +kernel
theorem dX3_become_16 : decode cX3_become 16 = .ok (.aload_n 1, 1) := by decide +kernel
theorem dX3_become_17 : decode cX3_become 17 = .ok (.getfield 15, 3) := by decide +kernel
theorem dX3_become_20 : decode cX3_become 20 = .ok (.iconst 0, 1) := by decide +kernel
theorem dX3_become_21 : decode cX3_become 21 = .ok (.aload_n 0, 1) := by decide +kernel
theorem dX3_become_22 : decode cX3_become 22 = .ok (.getfield 15, 3) := by decide +kernel
theorem dX3_become_25 : decode cX3_become 25 = .ok (.iconst 0, 1) := by decide +kernel
theorem dX3_become_26 : decode cX3_become 26 = .ok (.bipush 12, 2) := by decide +kernel
theorem dX3_become_28 : decode cX3_become 28 = .ok (.invokestatic 37, 3) := by decide +kernel
theorem dX3_become_31 : decode cX3_become 31 = .ok (.aload_n 1, 1) := by decide +kernel
theorem dX3_become_32 : decode cX3_become 32 = .ok (.getfield 19, 3) := by decide +kernel
theorem dX3_become_35 : decode cX3_become 35 = .ok (.iconst 0, 1) := by decide +kernel
theorem dX3_become_36 : decode cX3_become 36 = .ok (.aload_n 0, 1) := by decide +kernel
theorem dX3_become_37 : decode cX3_become 37 = .ok (.getfield 19, 3) := by decide +kernel
theorem dX3_become_40 : decode cX3_become 40 = .ok (.iconst 0, 1) := by decide +kernel
theorem dX3_become_41 : decode cX3_become 41 = .ok (.bipush 12, 2) := by decide +kernel
theorem dX3_become_43 : decode cX3_become 43 = .ok (.invokestatic 37, 3) := by decide +kernel
theorem dX3_become_46 : decode cX3_become 46 = .ok (.aload_n 1, 1) := by decide +kernel
theorem dX3_become_47 : decode cX3_become 47 = .ok (.getfield 22, 3) := by decide +kernel
theorem dX3_become_50 : decode cX3_become 50 = .ok (.iconst 0, 1) := by decide +kernel
theorem dX3_become_51 : decode cX3_become 51 = .ok (.aload_n 0, 1) := by decide +kernel
theorem dX3_become_52 : decode cX3_become 52 = .ok (.getfield 22, 3) := by decide +kernel
theorem dX3_become_55 : decode cX3_become 55 = .ok (.iconst 0, 1) := by decide +kernel
theorem dX3_become_56 : decode cX3_become 56 = .ok (.bipush 12, 2) := by decide +kernel
theorem dX3_become_58 : decode cX3_become 58 = .ok (.invokestatic 37, 3) := by decide +kernel
theorem dX3_become_61 : decode cX3_become 61 = .ok (.aload_n 1, 1) := by decide +kernel
theorem dX3_become_62 : decode cX3_become 62 = .ok (.getfield 25, 3) := by decide +kernel
theorem dX3_become_65 : decode cX3_become 65 = .ok (.iconst 0, 1) := by decide +kernel
theorem dX3_become_66 : decode cX3_become 66 = .ok (.aload_n 0, 1) := by decide +kernel
theorem dX3_become_67 : decode cX3_become 67 = .ok (.getfield 25, 3) := by decide +kernel
theorem dX3_become_70 : decode cX3_become 70 = .ok (.iconst 0, 1) := by decide +kernel
theorem dX3_become_71 : decode cX3_become 71 = .ok (.aload_n 0, 1) := by decide +kernel
theorem dX3_become_72 : decode cX3_become 72 = .ok (.getfield 25, 3) := by decide +kernel
theorem dX3_become_75 : decode cX3_become 75 = .ok (.arraylength, 1) := by decide +kernel
theorem dX3_become_76 : decode cX3_become 76 = .ok (.invokestatic 37, 3) := by decide +kernel
theorem dX3_become_79 : decode cX3_become 79 = .ok (.return_, 1) := by decide +kernel
theorem dX3_whiteOf_0 : decode cX3_whiteOf 0 = .ok (.bipush 9, 2) := by decide +kernel
theorem dX3_whiteOf_2 : decode cX3_whiteOf 2 = .ok (.aload_n 0, 1) := by decide +kernel
theorem dX3_whiteOf_3 : decode cX3_whiteOf 3 = .ok (.iconst 0, 1) := by decide +kernel
theorem dX3_whiteOf_4 : decode cX3_whiteOf 4 = .ok (.aload_n 1, 1) := by decide +kernel
theorem dX3_whiteOf_5 : decode cX3_whiteOf 5 = .ok (.iload_n 2, 1) := by decide +kernel
theorem dX3_whiteOf_6 : decode cX3_whiteOf 6 = .ok (.invokevirtual 43, 3) := by decide +kernel
theorem dX3_whiteOf_9 : decode cX3_whiteOf 9 = .ok (.iadd, 1) := by decide +kernel
theorem dX3_whiteOf_10 : decode cX3_whiteOf 10 = .ok (.aload_n 0, 1) := by decide +kernel
theorem dX3_whiteOf_11 : decode cX3_whiteOf 11 = .ok (.iconst 1, 1) := by decide +kernel
theorem dX3_whiteOf_12 : decode cX3_whiteOf 12 = .ok (.aload_n 1, 1) := by decide +kernel
theorem dX3_whiteOf_13 : decode cX3_whiteOf 13 = .ok (.iload_n 2, 1) := by decide +kernel
theorem dX3_whiteOf_14 : decode cX3_whiteOf 14 = .ok (.invokevirtual 43, 3) := by decide +kernel
theorem dX3_whiteOf_17 : decode cX3_whiteOf 17 = .ok (.isub, 1) := by decide +kernel
theorem dX3_whiteOf_18 : decode cX3_whiteOf 18 = .ok (.aload_n 1, 1) := by decide +kernel
theorem dX3_whiteOf_19 : decode cX3_whiteOf 19 = .ok (.getfield 47, 3) := by decide +kernel
theorem dX3_whiteOf_22 : decode cX3_whiteOf 22 = .ok (.iload_n 2, 1) := by decide +kernel
theorem dX3_whiteOf_23 : decode cX3_whiteOf 23 = .ok (.iaload, 1) := by decide +kernel
theorem dX3_whiteOf_24 : decode cX3_whiteOf 24 = .ok (.isub, 1) := by decide +kernel
theorem dX3_whiteOf_25 : decode cX3_whiteOf 25 = .ok (.aload_n 1, 1) := by decide +kernel
theorem dX3_whiteOf_26 : decode cX3_whiteOf 26 = .ok (.getfield 52, 3) := by decide +kernel
theorem dX3_whiteOf_29 : decode cX3_whiteOf 29 = .ok (.iload_n 2, 1) := by decide +kernel
theorem dX3_whiteOf_30 : decode cX3_whiteOf 30 = .ok (.iaload, 1) := by decide +kernel
theorem dX3_whiteOf_31 : decode cX3_whiteOf 31 = .ok (.invokestatic 55, 3) := by decide +kernel
theorem dX3_whiteOf_34 : decode cX3_whiteOf 34 = .ok (.isub, 1) := by decide +kernel
theorem dX3_whiteOf_35 : decode cX3_whiteOf 35 = .ok (.istore_n 3, 1) := by decide +kernel
theorem dX3_whiteOf_36 : decode cX3_whiteOf 36 = .ok (.iconst 0, 1) := by decide +kernel
theorem dX3_whiteOf_37 : decode cX3_whiteOf 37 = .ok (.bipush 20, 2) := by decide +kernel
theorem dX3_whiteOf_39 : decode cX3_whiteOf 39 = .ok (.iload_n 3, 1) := by decide +kernel
theorem dX3_whiteOf_40 : decode cX3_whiteOf 40 = .ok (.invokestatic 61, 3) := by decide +kernel
theorem dX3_whiteOf_43 : decode cX3_whiteOf 43 = .ok (.invokestatic 67, 3) := by decide +kernel
theorem dX3_whiteOf_46 : decode cX3_whiteOf 46 = .ok (.ireturn, 1) := by decide +kernel
theorem dX3_lightOf_0 : decode cX3_lightOf 0 = .ok (.aload_n 1, 1) := by decide +kernel
theorem dX3_lightOf_1 : decode cX3_lightOf 1 = .ok (.iload_n 2, 1) := by decide +kernel
theorem dX3_lightOf_2 : decode cX3_lightOf 2 = .ok (.invokevirtual 70, 3) := by decide +kernel
theorem dX3_lightOf_5 : decode cX3_lightOf 5 = .ok (.ifCond .eq 21, 3) := by decide +kernel
theorem dX3_lightOf_8 : decode cX3_lightOf 8 = .ok (.aload_n 1, 1) := by decide +kernel
theorem dX3_lightOf_9 : decode cX3_lightOf 9 = .ok (.getfield 74, 3) := by decide +kernel
theorem dX3_lightOf_12 : decode cX3_lightOf 12 = .ok (.iload_n 2, 1) := by decide +kernel
theorem dX3_lightOf_13 : decode cX3_lightOf 13 = .ok (.iaload, 1) := by decide +kernel
theorem dX3_lightOf_14 : decode cX3_lightOf 14 = .ok (.ifCond .ne 12, 3) := by decide +kernel
theorem dX3_lightOf_17 : decode cX3_lightOf 17 = .ok (.aload_n 0, 1) := by decide +kernel
theorem dX3_lightOf_18 : decode cX3_lightOf 18 = .ok (.aload_n 1, 1) := by decide +kernel
theorem dX3_lightOf_19 : decode cX3_lightOf 19 = .ok (.iload_n 2, 1) := by decide +kernel
theorem dX3_lightOf_20 : decode cX3_lightOf 20 = .ok (.invokevirtual 77, 3) := by decide +kernel
theorem dX3_lightOf_23 : decode cX3_lightOf 23 = .ok (.goto 4, 3) := by decide +kernel
theorem dX3_lightOf_26 : decode cX3_lightOf 26 = .ok (.iconst 0, 1) := by decide +kernel
theorem dX3_lightOf_27 : decode cX3_lightOf 27 = .ok (.ireturn, 1) := by decide +kernel
theorem dX3_allLight_0 : decode cX3_allLight 0 = .ok (.iconst 0, 1) := by decide +kernel
theorem dX3_allLight_1 : decode cX3_allLight 1 = .ok (.istore_n 2, 1) := by decide +kernel
theorem dX3_allLight_2 : decode cX3_allLight 2 = .ok (.iconst 0, 1) := by decide +kernel
theorem dX3_allLight_3 : decode cX3_allLight 3 = .ok (.istore_n 3, 1) := by decide +kernel
theorem dX3_allLight_4 : decode cX3_allLight 4 = .ok (.iload_n 3, 1) := by decide +kernel
theorem dX3_allLight_5 : decode cX3_allLight 5 = .ok (.bipush 8, 2) := by decide +kernel
theorem dX3_allLight_7 : decode cX3_allLight 7 = .ok (.if_icmp .ge 18, 3) := by decide +kernel
theorem dX3_allLight_10 : decode cX3_allLight 10 = .ok (.iload_n 2, 1) := by decide +kernel
theorem dX3_allLight_11 : decode cX3_allLight 11 = .ok (.aload_n 0, 1) := by decide +kernel
theorem dX3_allLight_12 : decode cX3_allLight 12 = .ok (.aload_n 1, 1) := by decide +kernel
theorem dX3_allLight_13 : decode cX3_allLight 13 = .ok (.iload_n 3, 1) := by decide +kernel
theorem dX3_allLight_14 : decode cX3_allLight 14 = .ok (.invokevirtual 81, 3) := by decide +kernel
theorem dX3_allLight_17 : decode cX3_allLight 17 = .ok (.iadd, 1) := by decide +kernel
theorem dX3_allLight_18 : decode cX3_allLight 18 = .ok (.istore_n 2, 1) := by decide +kernel
theorem dX3_allLight_19 : decode cX3_allLight 19 = .ok (.iinc 3 1, 3) := by decide +kernel
theorem dX3_allLight_22 : decode cX3_allLight 22 = .ok (.goto (-18), 3) := by decide +kernel
theorem dX3_allLight_25 : decode cX3_allLight 25 = .ok (.iload_n 2, 1) := by decide +kernel
theorem dX3_allLight_26 : decode cX3_allLight 26 = .ok (.ireturn, 1) := by decide +kernel
theorem dX3_driesBy_0 : decode cX3_driesBy 0 = .ok (.iconst 0, 1) := by decide +kernel
theorem dX3_driesBy_1 : decode cX3_driesBy 1 = .ok (.aload_n 1, 1) := by decide +kernel
theorem dX3_driesBy_2 : decode cX3_driesBy 2 = .ok (.getfield 84, 3) := by decide +kernel
theorem dX3_driesBy_5 : decode cX3_driesBy 5 = .ok (.aload_n 1, 1) := by decide +kernel
theorem dX3_driesBy_6 : decode cX3_driesBy 6 = .ok (.getfield 87, 3) := by decide +kernel
theorem dX3_driesBy_9 : decode cX3_driesBy 9 = .ok (.iload_n 2, 1) := by decide +kernel
theorem dX3_driesBy_10 : decode cX3_driesBy 10 = .ok (.iaload, 1) := by decide +kernel
theorem dX3_driesBy_11 : decode cX3_driesBy 11 = .ok (.iaload, 1) := by decide +kernel
theorem dX3_driesBy_12 : decode cX3_driesBy 12 = .ok (.aload_n 0, 1) := by decide +kernel
theorem dX3_driesBy_13 : decode cX3_driesBy 13 = .ok (.iconst 2, 1) := by decide +kernel
theorem dX3_driesBy_14 : decode cX3_driesBy 14 = .ok (.aload_n 1, 1) := by decide +kernel
theorem dX3_driesBy_15 : decode cX3_driesBy 15 = .ok (.iload_n 2, 1) := by decide +kernel
theorem dX3_driesBy_16 : decode cX3_driesBy 16 = .ok (.invokevirtual 43, 3) := by decide +kernel
theorem dX3_driesBy_19 : decode cX3_driesBy 19 = .ok (.iadd, 1) := by decide +kernel
theorem dX3_driesBy_20 : decode cX3_driesBy 20 = .ok (.aload_n 1, 1) := by decide +kernel
theorem dX3_driesBy_21 : decode cX3_driesBy 21 = .ok (.getfield 90, 3) := by decide +kernel
theorem dX3_driesBy_24 : decode cX3_driesBy 24 = .ok (.iconst 3, 1) := by decide +kernel
theorem dX3_driesBy_25 : decode cX3_driesBy 25 = .ok (.idiv, 1) := by decide +kernel
theorem dX3_driesBy_26 : decode cX3_driesBy 26 = .ok (.isub, 1) := by decide +kernel
theorem dX3_driesBy_27 : decode cX3_driesBy 27 = .ok (.invokestatic 67, 3) := by decide +kernel
theorem dX3_driesBy_30 : decode cX3_driesBy 30 = .ok (.ireturn, 1) := by decide +kernel
theorem dX3_soilsBy_0 : decode cX3_soilsBy 0 = .ok (.aload_n 0, 1) := by decide +kernel
theorem dX3_soilsBy_1 : decode cX3_soilsBy 1 = .ok (.iconst 3, 1) := by decide +kernel
theorem dX3_soilsBy_2 : decode cX3_soilsBy 2 = .ok (.aload_n 1, 1) := by decide +kernel
theorem dX3_soilsBy_3 : decode cX3_soilsBy 3 = .ok (.iload_n 2, 1) := by decide +kernel
theorem dX3_soilsBy_4 : decode cX3_soilsBy 4 = .ok (.invokevirtual 43, 3) := by decide +kernel
theorem dX3_soilsBy_7 : decode cX3_soilsBy 7 = .ok (.ireturn, 1) := by decide +kernel
theorem dX3_sumOf_0 : decode cX3_sumOf 0 = .ok (.iconst 0, 1) := by decide +kernel
theorem dX3_sumOf_1 : decode cX3_sumOf 1 = .ok (.istore 4, 2) := by decide +kernel
theorem dX3_sumOf_3 : decode cX3_sumOf 3 = .ok (.iconst 0, 1) := by decide +kernel
theorem dX3_sumOf_4 : decode cX3_sumOf 4 = .ok (.istore 5, 2) := by decide +kernel
theorem dX3_sumOf_6 : decode cX3_sumOf 6 = .ok (.iconst 0, 1) := by decide +kernel
theorem dX3_sumOf_7 : decode cX3_sumOf 7 = .ok (.istore 6, 2) := by decide +kernel
theorem dX3_sumOf_9 : decode cX3_sumOf 9 = .ok (.iconst 0, 1) := by decide +kernel
theorem dX3_sumOf_10 : decode cX3_sumOf 10 = .ok (.istore 7, 2) := by decide +kernel
theorem dX3_sumOf_12 : decode cX3_sumOf 12 = .ok (.iload 7, 2) := by decide +kernel
theorem dX3_sumOf_14 : decode cX3_sumOf 14 = .ok (.aload_n 0, 1) := by decide +kernel
theorem dX3_sumOf_15 : decode cX3_sumOf 15 = .ok (.getfield 9, 3) := by decide +kernel
theorem dX3_sumOf_18 : decode cX3_sumOf 18 = .ok (.if_icmp .ge 82, 3) := by decide +kernel
theorem dX3_sumOf_21 : decode cX3_sumOf 21 = .ok (.iload 7, 2) := by decide +kernel
theorem dX3_sumOf_23 : decode cX3_sumOf 23 = .ok (.bipush 12, 2) := by decide +kernel
theorem dX3_sumOf_25 : decode cX3_sumOf 25 = .ok (.if_icmp .ge 75, 3) := by decide +kernel
theorem dX3_sumOf_28 : decode cX3_sumOf 28 = .ok (.aload_n 0, 1) := by decide +kernel
theorem dX3_sumOf_29 : decode cX3_sumOf 29 = .ok (.getfield 15, 3) := by decide +kernel
theorem dX3_sumOf_32 : decode cX3_sumOf 32 = .ok (.iload 7, 2) := by decide +kernel
theorem dX3_sumOf_34 : decode cX3_sumOf 34 = .ok (.iaload, 1) := by decide +kernel
theorem dX3_sumOf_35 : decode cX3_sumOf 35 = .ok (.iload_n 1, 1) := by decide +kernel
theorem dX3_sumOf_36 : decode cX3_sumOf 36 = .ok (.if_icmp .ne 49, 3) := by decide +kernel
theorem dX3_sumOf_39 : decode cX3_sumOf 39 = .ok (.iload 6, 2) := by decide +kernel
theorem dX3_sumOf_41 : decode cX3_sumOf 41 = .ok (.ifCond .ne 12, 3) := by decide +kernel
theorem dX3_sumOf_44 : decode cX3_sumOf 44 = .ok (.aload_n 0, 1) := by decide +kernel
theorem dX3_sumOf_45 : decode cX3_sumOf 45 = .ok (.aload_n 2, 1) := by decide +kernel
theorem dX3_sumOf_46 : decode cX3_sumOf 46 = .ok (.iload_n 3, 1) := by decide +kernel
theorem dX3_sumOf_47 : decode cX3_sumOf 47 = .ok (.invokevirtual 93, 3) := by decide +kernel
theorem dX3_sumOf_50 : decode cX3_sumOf 50 = .ok (.iconst 1, 1) := by decide +kernel
theorem dX3_sumOf_51 : decode cX3_sumOf 51 = .ok (.istore 6, 2) := by decide +kernel
theorem dX3_sumOf_53 : decode cX3_sumOf 53 = .ok (.iload 4, 2) := by decide +kernel
theorem dX3_sumOf_55 : decode cX3_sumOf 55 = .ok (.aload_n 0, 1) := by decide +kernel
theorem dX3_sumOf_56 : decode cX3_sumOf 56 = .ok (.iload 5, 2) := by decide +kernel
theorem dX3_sumOf_58 : decode cX3_sumOf 58 = .ok (.aload_n 0, 1) := by decide +kernel
theorem dX3_sumOf_59 : decode cX3_sumOf 59 = .ok (.getfield 22, 3) := by decide +kernel
theorem dX3_sumOf_62 : decode cX3_sumOf 62 = .ok (.iload 7, 2) := by decide +kernel
theorem dX3_sumOf_64 : decode cX3_sumOf 64 = .ok (.iaload, 1) := by decide +kernel
theorem dX3_sumOf_65 : decode cX3_sumOf 65 = .ok (.invokevirtual 97, 3) := by decide +kernel
theorem dX3_sumOf_68 : decode cX3_sumOf 68 = .ok (.ifCond .eq 13, 3) := by decide +kernel
theorem dX3_sumOf_71 : decode cX3_sumOf 71 = .ok (.aload_n 0, 1) := by decide +kernel
theorem dX3_sumOf_72 : decode cX3_sumOf 72 = .ok (.getfield 19, 3) := by decide +kernel
theorem dX3_sumOf_75 : decode cX3_sumOf 75 = .ok (.iload 7, 2) := by decide +kernel
theorem dX3_sumOf_77 : decode cX3_sumOf 77 = .ok (.iaload, 1) := by decide +kernel
theorem dX3_sumOf_78 : decode cX3_sumOf 78 = .ok (.goto 4, 3) := by decide +kernel
theorem dX3_sumOf_81 : decode cX3_sumOf 81 = .ok (.iconst 0, 1) := by decide +kernel
theorem dX3_sumOf_82 : decode cX3_sumOf 82 = .ok (.iadd, 1) := by decide +kernel
theorem dX3_sumOf_83 : decode cX3_sumOf 83 = .ok (.istore 4, 2) := by decide +kernel
theorem dX3_sumOf_85 : decode cX3_sumOf 85 = .ok (.aload_n 0, 1) := by decide +kernel
theorem dX3_sumOf_86 : decode cX3_sumOf 86 = .ok (.getfield 22, 3) := by decide +kernel
theorem dX3_sumOf_89 : decode cX3_sumOf 89 = .ok (.iload 7, 2) := by decide +kernel
theorem dX3_sumOf_91 : decode cX3_sumOf 91 = .ok (.iaload, 1) := by decide +kernel
theorem dX3_sumOf_92 : decode cX3_sumOf 92 = .ok (.istore 5, 2) := by decide +kernel
theorem dX3_sumOf_94 : decode cX3_sumOf 94 = .ok (.iinc 7 1, 3) := by decide +kernel
theorem dX3_sumOf_97 : decode cX3_sumOf 97 = .ok (.goto (-85), 3) := by decide +kernel
theorem dX3_sumOf_100 : decode cX3_sumOf 100 = .ok (.iload 4, 2) := by decide +kernel
theorem dX3_sumOf_102 : decode cX3_sumOf 102 = .ok (.ireturn, 1) := by decide +kernel
theorem dX3_look_0 : decode cX3_look 0 = .ok (.aload_n 0, 1) := by decide +kernel
theorem dX3_look_1 : decode cX3_look 1 = .ok (.getfield 28, 3) := by decide +kernel
theorem dX3_look_4 : decode cX3_look 4 = .ok (.iconst 0, 1) := by decide +kernel
theorem dX3_look_5 : decode cX3_look 5 = .ok (.iload_n 2, 1) := by decide +kernel
theorem dX3_look_6 : decode cX3_look 6 = .ok (.iastore, 1) := by decide +kernel
theorem dX3_look_7 : decode cX3_look 7 = .ok (.aload_n 0, 1) := by decide +kernel
theorem dX3_look_8 : decode cX3_look 8 = .ok (.getfield 28, 3) := by decide +kernel
theorem dX3_look_11 : decode cX3_look 11 = .ok (.iconst 1, 1) := by decide +kernel
theorem dX3_look_12 : decode cX3_look 12 = .ok (.aload_n 1, 1) := by decide +kernel
theorem dX3_look_13 : decode cX3_look 13 = .ok (.getfield 47, 3) := by decide +kernel
theorem dX3_look_16 : decode cX3_look 16 = .ok (.iload_n 2, 1) := by decide +kernel
theorem dX3_look_17 : decode cX3_look 17 = .ok (.iaload, 1) := by decide +kernel
theorem dX3_look_18 : decode cX3_look 18 = .ok (.iastore, 1) := by decide +kernel
theorem dX3_look_19 : decode cX3_look 19 = .ok (.aload_n 0, 1) := by decide +kernel
theorem dX3_look_20 : decode cX3_look 20 = .ok (.getfield 28, 3) := by decide +kernel
theorem dX3_look_23 : decode cX3_look 23 = .ok (.iconst 2, 1) := by decide +kernel
theorem dX3_look_24 : decode cX3_look 24 = .ok (.aload_n 1, 1) := by decide +kernel
theorem dX3_look_25 : decode cX3_look 25 = .ok (.getfield 101, 3) := by decide +kernel
theorem dX3_look_28 : decode cX3_look 28 = .ok (.iload_n 2, 1) := by decide +kernel
theorem dX3_look_29 : decode cX3_look 29 = .ok (.iaload, 1) := by decide +kernel
theorem dX3_look_30 : decode cX3_look 30 = .ok (.iastore, 1) := by decide +kernel
theorem dX3_look_31 : decode cX3_look 31 = .ok (.aload_n 0, 1) := by decide +kernel
theorem dX3_look_32 : decode cX3_look 32 = .ok (.getfield 28, 3) := by decide +kernel
theorem dX3_look_35 : decode cX3_look 35 = .ok (.iconst 3, 1) := by decide +kernel
theorem dX3_look_36 : decode cX3_look 36 = .ok (.aload_n 1, 1) := by decide +kernel
theorem dX3_look_37 : decode cX3_look 37 = .ok (.getfield 74, 3) := by decide +kernel
theorem dX3_look_40 : decode cX3_look 40 = .ok (.iload_n 2, 1) := by decide +kernel
theorem dX3_look_41 : decode cX3_look 41 = .ok (.iaload, 1) := by decide +kernel
theorem dX3_look_42 : decode cX3_look 42 = .ok (.iastore, 1) := by decide +kernel
theorem dX3_look_43 : decode cX3_look 43 = .ok (.aload_n 0, 1) := by decide +kernel
theorem dX3_look_44 : decode cX3_look 44 = .ok (.getfield 28, 3) := by decide +kernel
theorem dX3_look_47 : decode cX3_look 47 = .ok (.iconst 4, 1) := by decide +kernel
theorem dX3_look_48 : decode cX3_look 48 = .ok (.aload_n 1, 1) := by decide +kernel
theorem dX3_look_49 : decode cX3_look 49 = .ok (.getfield 52, 3) := by decide +kernel
theorem dX3_look_52 : decode cX3_look 52 = .ok (.iload_n 2, 1) := by decide +kernel
theorem dX3_look_53 : decode cX3_look 53 = .ok (.iaload, 1) := by decide +kernel
theorem dX3_look_54 : decode cX3_look 54 = .ok (.invokestatic 55, 3) := by decide +kernel
theorem dX3_look_57 : decode cX3_look 57 = .ok (.iastore, 1) := by decide +kernel
theorem dX3_look_58 : decode cX3_look 58 = .ok (.aload_n 0, 1) := by decide +kernel
theorem dX3_look_59 : decode cX3_look 59 = .ok (.getfield 28, 3) := by decide +kernel
theorem dX3_look_62 : decode cX3_look 62 = .ok (.iconst 5, 1) := by decide +kernel
theorem dX3_look_63 : decode cX3_look 63 = .ok (.aload_n 1, 1) := by decide +kernel
theorem dX3_look_64 : decode cX3_look 64 = .ok (.getfield 84, 3) := by decide +kernel
theorem dX3_look_67 : decode cX3_look 67 = .ok (.aload_n 1, 1) := by decide +kernel
theorem dX3_look_68 : decode cX3_look 68 = .ok (.getfield 87, 3) := by decide +kernel
theorem dX3_look_71 : decode cX3_look 71 = .ok (.iload_n 2, 1) := by decide +kernel
theorem dX3_look_72 : decode cX3_look 72 = .ok (.iaload, 1) := by decide +kernel
theorem dX3_look_73 : decode cX3_look 73 = .ok (.iaload, 1) := by decide +kernel
theorem dX3_look_74 : decode cX3_look 74 = .ok (.iastore, 1) := by decide +kernel
theorem dX3_look_75 : decode cX3_look 75 = .ok (.aload_n 0, 1) := by decide +kernel
theorem dX3_look_76 : decode cX3_look 76 = .ok (.getfield 28, 3) := by decide +kernel
theorem dX3_look_79 : decode cX3_look 79 = .ok (.bipush 6, 2) := by decide +kernel
theorem dX3_look_81 : decode cX3_look 81 = .ok (.aload_n 1, 1) := by decide +kernel
theorem dX3_look_82 : decode cX3_look 82 = .ok (.getfield 90, 3) := by decide +kernel
theorem dX3_look_85 : decode cX3_look 85 = .ok (.iastore, 1) := by decide +kernel
theorem dX3_look_86 : decode cX3_look 86 = .ok (.aload_n 0, 1) := by decide +kernel
theorem dX3_look_87 : decode cX3_look 87 = .ok (.getfield 28, 3) := by decide +kernel
theorem dX3_look_90 : decode cX3_look 90 = .ok (.bipush 7, 2) := by decide +kernel
theorem dX3_look_92 : decode cX3_look 92 = .ok (.aload_n 1, 1) := by decide +kernel
theorem dX3_look_93 : decode cX3_look 93 = .ok (.getfield 104, 3) := by decide +kernel
theorem dX3_look_96 : decode cX3_look 96 = .ok (.iastore, 1) := by decide +kernel
theorem dX3_look_97 : decode cX3_look 97 = .ok (.aload_n 0, 1) := by decide +kernel
theorem dX3_look_98 : decode cX3_look 98 = .ok (.getfield 28, 3) := by decide +kernel
theorem dX3_look_101 : decode cX3_look 101 = .ok (.bipush 8, 2) := by decide +kernel
theorem dX3_look_103 : decode cX3_look 103 = .ok (.aload_n 1, 1) := by decide +kernel
theorem dX3_look_104 : decode cX3_look 104 = .ok (.getfield 104, 3) := by decide +kernel
theorem dX3_look_107 : decode cX3_look 107 = .ok (.bipush 28, 2) := by decide +kernel
theorem dX3_look_109 : decode cX3_look 109 = .ok (.irem, 1) := by decide +kernel
theorem dX3_look_110 : decode cX3_look 110 = .ok (.bipush 14, 2) := by decide +kernel
theorem dX3_look_112 : decode cX3_look 112 = .ok (.if_icmp .ne 7, 3) := by decide +kernel
theorem dX3_look_115 : decode cX3_look 115 = .ok (.iconst 1, 1) := by decide +kernel
theorem dX3_look_116 : decode cX3_look 116 = .ok (.goto 4, 3) := by decide +kernel
theorem dX3_look_119 : decode cX3_look 119 = .ok (.iconst 0, 1) := by decide +kernel
theorem dX3_look_120 : decode cX3_look 120 = .ok (.iastore, 1) := by decide +kernel
theorem dX3_look_121 : decode cX3_look 121 = .ok (.aload_n 0, 1) := by decide +kernel
theorem dX3_look_122 : decode cX3_look 122 = .ok (.getfield 28, 3) := by decide +kernel
theorem dX3_look_125 : decode cX3_look 125 = .ok (.bipush 9, 2) := by decide +kernel
theorem dX3_look_127 : decode cX3_look 127 = .ok (.aload_n 1, 1) := by decide +kernel
theorem dX3_look_128 : decode cX3_look 128 = .ok (.iload_n 2, 1) := by decide +kernel
theorem dX3_look_129 : decode cX3_look 129 = .ok (.invokevirtual 70, 3) := by decide +kernel
theorem dX3_look_132 : decode cX3_look 132 = .ok (.ifCond .eq 7, 3) := by decide +kernel
theorem dX3_look_135 : decode cX3_look 135 = .ok (.iconst 1, 1) := by decide +kernel
theorem dX3_look_136 : decode cX3_look 136 = .ok (.goto 4, 3) := by decide +kernel
theorem dX3_look_139 : decode cX3_look 139 = .ok (.iconst 0, 1) := by decide +kernel
theorem dX3_look_140 : decode cX3_look 140 = .ok (.iastore, 1) := by decide +kernel
theorem dX3_look_141 : decode cX3_look 141 = .ok (.return_, 1) := by decide +kernel
theorem dX3_holds_0 : decode cX3_holds 0 = .ok (.iconst 0, 1) := by decide +kernel
theorem dX3_holds_1 : decode cX3_holds 1 = .ok (.istore_n 3, 1) := by decide +kernel
theorem dX3_holds_2 : decode cX3_holds 2 = .ok (.iload_n 1, 1) := by decide +kernel
theorem dX3_holds_3 : decode cX3_holds 3 = .ok (.istore 4, 2) := by decide +kernel
theorem dX3_holds_5 : decode cX3_holds 5 = .ok (.iload 4, 2) := by decide +kernel
theorem dX3_holds_7 : decode cX3_holds 7 = .ok (.iload_n 2, 1) := by decide +kernel
theorem dX3_holds_8 : decode cX3_holds 8 = .ok (.if_icmp .ge 147, 3) := by decide +kernel
theorem dX3_holds_11 : decode cX3_holds 11 = .ok (.iload 4, 2) := by decide +kernel
theorem dX3_holds_13 : decode cX3_holds 13 = .ok (.aload_n 0, 1) := by decide +kernel
theorem dX3_holds_14 : decode cX3_holds 14 = .ok (.getfield 25, 3) := by decide +kernel
theorem dX3_holds_17 : decode cX3_holds 17 = .ok (.arraylength, 1) := by decide +kernel
theorem dX3_holds_18 : decode cX3_holds 18 = .ok (.if_icmp .ge 137, 3) := by decide +kernel
theorem dX3_holds_21 : decode cX3_holds 21 = .ok (.aload_n 0, 1) := by decide +kernel
theorem dX3_holds_22 : decode cX3_holds 22 = .ok (.getfield 25, 3) := by decide +kernel
theorem dX3_holds_25 : decode cX3_holds 25 = .ok (.iload 4, 2) := by decide +kernel
theorem dX3_holds_27 : decode cX3_holds 27 = .ok (.iaload, 1) := by decide +kernel
theorem dX3_holds_28 : decode cX3_holds 28 = .ok (.istore 5, 2) := by decide +kernel
theorem dX3_holds_30 : decode cX3_holds 30 = .ok (.iload 5, 2) := by decide +kernel
theorem dX3_holds_32 : decode cX3_holds 32 = .ok (.sipush 1010, 3) := by decide +kernel
theorem dX3_holds_35 : decode cX3_holds 35 = .ok (.if_icmp .ge 45, 3) := by decide +kernel
theorem dX3_holds_38 : decode cX3_holds 38 = .ok (.iload_n 3, 1) := by decide +kernel
theorem dX3_holds_39 : decode cX3_holds 39 = .ok (.bipush 32, 2) := by decide +kernel
theorem dX3_holds_41 : decode cX3_holds 41 = .ok (.if_icmp .ge 108, 3) := by decide +kernel
theorem dX3_holds_44 : decode cX3_holds 44 = .ok (.aload_n 0, 1) := by decide +kernel
theorem dX3_holds_45 : decode cX3_holds 45 = .ok (.getfield 31, 3) := by decide +kernel
theorem dX3_holds_48 : decode cX3_holds 48 = .ok (.iload_n 3, 1) := by decide +kernel
theorem dX3_holds_49 : decode cX3_holds 49 = .ok (.iload 5, 2) := by decide +kernel
theorem dX3_holds_51 : decode cX3_holds 51 = .ok (.sipush 1000, 3) := by decide +kernel
theorem dX3_holds_54 : decode cX3_holds 54 = .ok (.if_icmp .ge 8, 3) := by decide +kernel
theorem dX3_holds_57 : decode cX3_holds 57 = .ok (.iload 5, 2) := by decide +kernel
theorem dX3_holds_59 : decode cX3_holds 59 = .ok (.goto 14, 3) := by decide +kernel
theorem dX3_holds_62 : decode cX3_holds 62 = .ok (.aload_n 0, 1) := by decide +kernel
theorem dX3_holds_63 : decode cX3_holds 63 = .ok (.getfield 28, 3) := by decide +kernel
theorem dX3_holds_66 : decode cX3_holds 66 = .ok (.iload 5, 2) := by decide +kernel
theorem dX3_holds_68 : decode cX3_holds 68 = .ok (.sipush 1000, 3) := by decide +kernel
theorem dX3_holds_71 : decode cX3_holds 71 = .ok (.isub, 1) := by decide +kernel
theorem dX3_holds_72 : decode cX3_holds 72 = .ok (.iaload, 1) := by decide +kernel
theorem dX3_holds_73 : decode cX3_holds 73 = .ok (.iastore, 1) := by decide +kernel
theorem dX3_holds_74 : decode cX3_holds 74 = .ok (.iinc 3 1, 3) := by decide +kernel
theorem dX3_holds_77 : decode cX3_holds 77 = .ok (.goto 72, 3) := by decide +kernel
theorem dX3_holds_80 : decode cX3_holds 80 = .ok (.iload 5, 2) := by decide +kernel
theorem dX3_holds_82 : decode cX3_holds 82 = .ok (.sipush 1010, 3) := by decide +kernel
theorem dX3_holds_85 : decode cX3_holds 85 = .ok (.if_icmp .ne 29, 3) := by decide +kernel
theorem dX3_holds_88 : decode cX3_holds 88 = .ok (.iload_n 3, 1) := by decide +kernel
theorem dX3_holds_89 : decode cX3_holds 89 = .ok (.iconst 1, 1) := by decide +kernel
theorem dX3_holds_90 : decode cX3_holds 90 = .ok (.if_icmp .lt 59, 3) := by decide +kernel
theorem dX3_holds_93 : decode cX3_holds 93 = .ok (.aload_n 0, 1) := by decide +kernel
theorem dX3_holds_94 : decode cX3_holds 94 = .ok (.getfield 31, 3) := by decide +kernel
theorem dX3_holds_97 : decode cX3_holds 97 = .ok (.iload_n 3, 1) := by decide +kernel
theorem dX3_holds_98 : decode cX3_holds 98 = .ok (.iconst 1, 1) := by decide +kernel
theorem dX3_holds_99 : decode cX3_holds 99 = .ok (.isub, 1) := by decide +kernel
theorem dX3_holds_100 : decode cX3_holds 100 = .ok (.iconst 1, 1) := by decide +kernel
theorem dX3_holds_101 : decode cX3_holds 101 = .ok (.aload_n 0, 1) := by decide +kernel
theorem dX3_holds_102 : decode cX3_holds 102 = .ok (.getfield 31, 3) := by decide +kernel
theorem dX3_holds_105 : decode cX3_holds 105 = .ok (.iload_n 3, 1) := by decide +kernel
theorem dX3_holds_106 : decode cX3_holds 106 = .ok (.iconst 1, 1) := by decide +kernel
theorem dX3_holds_107 : decode cX3_holds 107 = .ok (.isub, 1) := by decide +kernel
theorem dX3_holds_108 : decode cX3_holds 108 = .ok (.iaload, 1) := by decide +kernel
theorem dX3_holds_109 : decode cX3_holds 109 = .ok (.isub, 1) := by decide +kernel
theorem dX3_holds_110 : decode cX3_holds 110 = .ok (.iastore, 1) := by decide +kernel
theorem dX3_holds_111 : decode cX3_holds 111 = .ok (.goto 38, 3) := by decide +kernel
theorem dX3_holds_114 : decode cX3_holds 114 = .ok (.iload_n 3, 1) := by decide +kernel
theorem dX3_holds_115 : decode cX3_holds 115 = .ok (.iconst 2, 1) := by decide +kernel
theorem dX3_holds_116 : decode cX3_holds 116 = .ok (.if_icmp .lt 33, 3) := by decide +kernel
theorem dX3_holds_119 : decode cX3_holds 119 = .ok (.iinc 3 (-1), 3) := by decide +kernel
theorem dX3_holds_122 : decode cX3_holds 122 = .ok (.aload_n 0, 1) := by decide +kernel
theorem dX3_holds_123 : decode cX3_holds 123 = .ok (.getfield 31, 3) := by decide +kernel
theorem dX3_holds_126 : decode cX3_holds 126 = .ok (.iload_n 3, 1) := by decide +kernel
theorem dX3_holds_127 : decode cX3_holds 127 = .ok (.iconst 1, 1) := by decide +kernel
theorem dX3_holds_128 : decode cX3_holds 128 = .ok (.isub, 1) := by decide +kernel
theorem dX3_holds_129 : decode cX3_holds 129 = .ok (.iload 5, 2) := by decide +kernel
theorem dX3_holds_131 : decode cX3_holds 131 = .ok (.aload_n 0, 1) := by decide +kernel
theorem dX3_holds_132 : decode cX3_holds 132 = .ok (.getfield 31, 3) := by decide +kernel
theorem dX3_holds_135 : decode cX3_holds 135 = .ok (.iload_n 3, 1) := by decide +kernel
theorem dX3_holds_136 : decode cX3_holds 136 = .ok (.iconst 1, 1) := by decide +kernel
theorem dX3_holds_137 : decode cX3_holds 137 = .ok (.isub, 1) := by decide +kernel
theorem dX3_holds_138 : decode cX3_holds 138 = .ok (.iaload, 1) := by decide +kernel
theorem dX3_holds_139 : decode cX3_holds 139 = .ok (.aload_n 0, 1) := by decide +kernel
theorem dX3_holds_140 : decode cX3_holds 140 = .ok (.getfield 31, 3) := by decide +kernel
theorem dX3_holds_143 : decode cX3_holds 143 = .ok (.iload_n 3, 1) := by decide +kernel
theorem dX3_holds_144 : decode cX3_holds 144 = .ok (.iaload, 1) := by decide +kernel
theorem dX3_holds_145 : decode cX3_holds 145 = .ok (.invokestatic 107, 3) := by decide +kernel
theorem dX3_holds_148 : decode cX3_holds 148 = .ok (.iastore, 1) := by decide +kernel
theorem dX3_holds_149 : decode cX3_holds 149 = .ok (.iinc 4 1, 3) := by decide +kernel
theorem dX3_holds_152 : decode cX3_holds 152 = .ok (.goto (-147), 3) := by decide +kernel
theorem dX3_holds_155 : decode cX3_holds 155 = .ok (.iload_n 3, 1) := by decide +kernel
theorem dX3_holds_156 : decode cX3_holds 156 = .ok (.ifCond .eq 15, 3) := by decide +kernel
theorem dX3_holds_159 : decode cX3_holds 159 = .ok (.aload_n 0, 1) := by decide +kernel
theorem dX3_holds_160 : decode cX3_holds 160 = .ok (.getfield 31, 3) := by decide +kernel
theorem dX3_holds_163 : decode cX3_holds 163 = .ok (.iload_n 3, 1) := by decide +kernel
theorem dX3_holds_164 : decode cX3_holds 164 = .ok (.iconst 1, 1) := by decide +kernel
theorem dX3_holds_165 : decode cX3_holds 165 = .ok (.isub, 1) := by decide +kernel
theorem dX3_holds_166 : decode cX3_holds 166 = .ok (.iaload, 1) := by decide +kernel
theorem dX3_holds_167 : decode cX3_holds 167 = .ok (.iconst 1, 1) := by decide +kernel
theorem dX3_holds_168 : decode cX3_holds 168 = .ok (.if_icmp .ne 7, 3) := by decide +kernel
theorem dX3_holds_171 : decode cX3_holds 171 = .ok (.iconst 1, 1) := by decide +kernel
theorem dX3_holds_172 : decode cX3_holds 172 = .ok (.goto 4, 3) := by decide +kernel
theorem dX3_holds_175 : decode cX3_holds 175 = .ok (.iconst 0, 1) := by decide +kernel
theorem dX3_holds_176 : decode cX3_holds 176 = .ok (.ireturn, 1) := by decide +kernel
theorem dX3_joined_0 : decode cX3_joined 0 = .ok (.iload_n 0, 1) := by decide +kernel
theorem dX3_joined_1 : decode cX3_joined 1 = .ok (.tableswitch 61 1011 1014 #[31, 35, 46, 57], 31) := by decide +kernel
theorem dX3_joined_32 : decode cX3_joined 32 = .ok (.iload_n 1, 1) := by decide +kernel
theorem dX3_joined_33 : decode cX3_joined 33 = .ok (.iload_n 2, 1) := by decide +kernel
theorem dX3_joined_34 : decode cX3_joined 34 = .ok (.iadd, 1) := by decide +kernel
theorem dX3_joined_35 : decode cX3_joined 35 = .ok (.ireturn, 1) := by decide +kernel
theorem dX3_joined_36 : decode cX3_joined 36 = .ok (.iload_n 1, 1) := by decide +kernel
theorem dX3_joined_37 : decode cX3_joined 37 = .ok (.iload_n 2, 1) := by decide +kernel
theorem dX3_joined_38 : decode cX3_joined 38 = .ok (.if_icmp .ge 7, 3) := by decide +kernel
theorem dX3_joined_41 : decode cX3_joined 41 = .ok (.iconst 1, 1) := by decide +kernel
theorem dX3_joined_42 : decode cX3_joined 42 = .ok (.goto 4, 3) := by decide +kernel
theorem dX3_joined_45 : decode cX3_joined 45 = .ok (.iconst 0, 1) := by decide +kernel
theorem dX3_joined_46 : decode cX3_joined 46 = .ok (.ireturn, 1) := by decide +kernel
theorem dX3_joined_47 : decode cX3_joined 47 = .ok (.iload_n 1, 1) := by decide +kernel
theorem dX3_joined_48 : decode cX3_joined 48 = .ok (.iload_n 2, 1) := by decide +kernel
theorem dX3_joined_49 : decode cX3_joined 49 = .ok (.if_icmp .le 7, 3) := by decide +kernel
theorem dX3_joined_52 : decode cX3_joined 52 = .ok (.iconst 1, 1) := by decide +kernel
theorem dX3_joined_53 : decode cX3_joined 53 = .ok (.goto 4, 3) := by decide +kernel
theorem dX3_joined_56 : decode cX3_joined 56 = .ok (.iconst 0, 1) := by decide +kernel
theorem dX3_joined_57 : decode cX3_joined 57 = .ok (.ireturn, 1) := by decide +kernel
theorem dX3_joined_58 : decode cX3_joined 58 = .ok (.iload_n 1, 1) := by decide +kernel
theorem dX3_joined_59 : decode cX3_joined 59 = .ok (.iload_n 2, 1) := by decide +kernel
theorem dX3_joined_60 : decode cX3_joined 60 = .ok (.iand, 1) := by decide +kernel
theorem dX3_joined_61 : decode cX3_joined 61 = .ok (.ireturn, 1) := by decide +kernel
theorem dX3_joined_62 : decode cX3_joined 62 = .ok (.iload_n 1, 1) := by decide +kernel
theorem dX3_joined_63 : decode cX3_joined 63 = .ok (.iload_n 2, 1) := by decide +kernel
theorem dX3_joined_64 : decode cX3_joined 64 = .ok (.ior, 1) := by decide +kernel
theorem dX3_joined_65 : decode cX3_joined 65 = .ok (.ireturn, 1) := by decide +kernel
theorem dX4_read_0 : decode cX4_read 0 = .ok (.aload_n 1, 1) := by decide +kernel
theorem dX4_read_1 : decode cX4_read 1 = .ok (.invokevirtual 9, 3) := by decide +kernel
theorem dX4_read_4 : decode cX4_read 4 = .ok (.aload_n 0, 1) := by decide +kernel
theorem dX4_read_5 : decode cX4_read 5 = .ok (.getstatic 14, 3) := by decide +kernel
theorem dX4_read_8 : decode cX4_read 8 = .ok (.invokevirtual 20, 3) := by decide +kernel
theorem dX4_read_11 : decode cX4_read 11 = .ok (.ifCond .eq 4, 3) := by decide +kernel
theorem dX4_read_14 : decode cX4_read 14 = .ok (.return_, 1) := by decide +kernel
theorem dX4_read_15 : decode cX4_read 15 = .ok (.iconst 0, 1) := by decide +kernel
theorem dX4_read_16 : decode cX4_read 16 = .ok (.istore_n 2, 1) := by decide +kernel
theorem dX4_read_17 : decode cX4_read 17 = .ok (.iload_n 2, 1) := by decide +kernel
theorem dX4_read_18 : decode cX4_read 18 = .ok (.bipush 12, 2) := by decide +kernel
theorem dX4_read_20 : decode cX4_read 20 = .ok (.if_icmp .ge 29, 3) := by decide +kernel
theorem dX4_read_23 : decode cX4_read 23 = .ok (.aload_n 0, 1) := by decide +kernel
theorem dX4_read_24 : decode cX4_read 24 = .ok (.aload_n 1, 1) := by decide +kernel
theorem dX4_read_25 : decode cX4_read 25 = .ok (.invokestatic 26, 3) := by decide +kernel
theorem dX4_read_28 : decode cX4_read 28 = .ok (.aload_n 0, 1) := by decide +kernel
theorem dX4_read_29 : decode cX4_read 29 = .ok (.getstatic 32, 3) := by decide +kernel
theorem dX4_read_32 : decode cX4_read 32 = .ok (.invokevirtual 35, 3) := by decide +kernel
theorem dX4_read_35 : decode cX4_read 35 = .ok (.ifCond .ne 8, 3) := by decide +kernel
theorem dX4_read_38 : decode cX4_read 38 = .ok (.aload_n 0, 1) := by decide +kernel
theorem dX4_read_39 : decode cX4_read 39 = .ok (.invokevirtual 38, 3) := by decide +kernel
theorem dX4_read_42 : decode cX4_read 42 = .ok (.return_, 1) := by decide +kernel
theorem dX4_read_43 : decode cX4_read 43 = .ok (.iinc 2 1, 3) := by decide +kernel
theorem dX4_read_46 : decode cX4_read 46 = .ok (.goto (-29), 3) := by decide +kernel
theorem dX4_read_49 : decode cX4_read 49 = .ok (.aload_n 0, 1) := by decide +kernel
theorem dX4_read_50 : decode cX4_read 50 = .ok (.invokevirtual 41, 3) := by decide +kernel
theorem dX4_read_53 : decode cX4_read 53 = .ok (.return_, 1) := by decide +kernel
theorem dX4_readLine_0 : decode cX4_readLine 0 = .ok (.iconst 0, 1) := by decide +kernel
theorem dX4_readLine_1 : decode cX4_readLine 1 = .ok (.istore_n 2, 1) := by decide +kernel
theorem dX4_readLine_2 : decode cX4_readLine 2 = .ok (.aload_n 0, 1) := by decide +kernel
theorem dX4_readLine_3 : decode cX4_readLine 3 = .ok (.getstatic 44, 3) := by decide +kernel
theorem dX4_readLine_6 : decode cX4_readLine 6 = .ok (.invokevirtual 35, 3) := by decide +kernel
theorem dX4_readLine_9 : decode cX4_readLine 9 = .ok (.ifCond .eq 8, 3) := by decide +kernel
theorem dX4_readLine_12 : decode cX4_readLine 12 = .ok (.iconst 1, 1) := by decide +kernel
theorem dX4_readLine_13 : decode cX4_readLine 13 = .ok (.istore_n 2, 1) := by decide +kernel
theorem dX4_readLine_14 : decode cX4_readLine 14 = .ok (.goto 40, 3) := by decide +kernel
theorem dX4_readLine_17 : decode cX4_readLine 17 = .ok (.aload_n 0, 1) := by decide +kernel
theorem dX4_readLine_18 : decode cX4_readLine 18 = .ok (.getstatic 47, 3) := by decide +kernel
theorem dX4_readLine_21 : decode cX4_readLine 21 = .ok (.invokevirtual 35, 3) := by decide +kernel
theorem dX4_readLine_24 : decode cX4_readLine 24 = .ok (.ifCond .eq 8, 3) := by decide +kernel
theorem dX4_readLine_27 : decode cX4_readLine 27 = .ok (.iconst 2, 1) := by decide +kernel
theorem dX4_readLine_28 : decode cX4_readLine 28 = .ok (.istore_n 2, 1) := by decide +kernel
theorem dX4_readLine_29 : decode cX4_readLine 29 = .ok (.goto 25, 3) := by decide +kernel
theorem dX4_readLine_32 : decode cX4_readLine 32 = .ok (.aload_n 0, 1) := by decide +kernel
theorem dX4_readLine_33 : decode cX4_readLine 33 = .ok (.getstatic 50, 3) := by decide +kernel
theorem dX4_readLine_36 : decode cX4_readLine 36 = .ok (.invokevirtual 35, 3) := by decide +kernel
theorem dX4_readLine_39 : decode cX4_readLine 39 = .ok (.ifCond .eq 8, 3) := by decide +kernel
theorem dX4_readLine_42 : decode cX4_readLine 42 = .ok (.iconst 3, 1) := by decide +kernel
theorem dX4_readLine_43 : decode cX4_readLine 43 = .ok (.istore_n 2, 1) := by decide +kernel
theorem dX4_readLine_44 : decode cX4_readLine 44 = .ok (.goto 10, 3) := by decide +kernel
theorem dX4_readLine_47 : decode cX4_readLine 47 = .ok (.aload_n 0, 1) := by decide +kernel
theorem dX4_readLine_48 : decode cX4_readLine 48 = .ok (.getstatic 53, 3) := by decide +kernel
theorem dX4_readLine_51 : decode cX4_readLine 51 = .ok (.invokevirtual 56, 3) := by decide +kernel
theorem dX4_readLine_54 : decode cX4_readLine 54 = .ok (.aload_n 0, 1) := by decide +kernel
theorem dX4_readLine_55 : decode cX4_readLine 55 = .ok (.iconst 0, 1) := by decide +kernel
theorem dX4_readLine_56 : decode cX4_readLine 56 = .ok (.bipush 20, 2) := by decide +kernel
theorem dX4_readLine_58 : decode cX4_readLine 58 = .ok (.invokevirtual 60, 3) := by decide +kernel
theorem dX4_readLine_61 : decode cX4_readLine 61 = .ok (.istore_n 3, 1) := by decide +kernel
theorem dX4_readLine_62 : decode cX4_readLine 62 = .ok (.aload_n 0, 1) := by decide +kernel
theorem dX4_readLine_63 : decode cX4_readLine 63 = .ok (.getstatic 64, 3) := by decide +kernel
theorem dX4_readLine_66 : decode cX4_readLine 66 = .ok (.invokevirtual 35, 3) := by decide +kernel
theorem dX4_readLine_69 : decode cX4_readLine 69 = .ok (.ifCond .eq 9, 3) := by decide +kernel
theorem dX4_readLine_72 : decode cX4_readLine 72 = .ok (.aload_n 0, 1) := by decide +kernel
theorem dX4_readLine_73 : decode cX4_readLine 73 = .ok (.aload_n 1, 1) := by decide +kernel
theorem dX4_readLine_74 : decode cX4_readLine 74 = .ok (.iconst 0, 1) := by decide +kernel
theorem dX4_readLine_75 : decode cX4_readLine 75 = .ok (.invokestatic 67, 3) := by decide +kernel
theorem dX4_readLine_78 : decode cX4_readLine 78 = .ok (.aload_n 1, 1) := by decide +kernel
theorem dX4_readLine_79 : decode cX4_readLine 79 = .ok (.iload_n 2, 1) := by decide +kernel
theorem dX4_readLine_80 : decode cX4_readLine 80 = .ok (.iload_n 3, 1) := by decide +kernel
theorem dX4_readLine_81 : decode cX4_readLine 81 = .ok (.invokevirtual 71, 3) := by decide +kernel
theorem dX4_readLine_84 : decode cX4_readLine 84 = .ok (.return_, 1) := by decide +kernel
theorem dX4_readCondition_0 : decode cX4_readCondition 0 = .ok (.iconst 1, 1) := by decide +kernel
theorem dX4_readCondition_1 : decode cX4_readCondition 1 = .ok (.istore_n 3, 1) := by decide +kernel
theorem dX4_readCondition_2 : decode cX4_readCondition 2 = .ok (.iconst 0, 1) := by decide +kernel
theorem dX4_readCondition_3 : decode cX4_readCondition 3 = .ok (.istore 4, 2) := by decide +kernel
theorem dX4_readCondition_5 : decode cX4_readCondition 5 = .ok (.iload_n 3, 1) := by decide +kernel
theorem dX4_readCondition_6 : decode cX4_readCondition 6 = .ok (.ifCond .eq 89, 3) := by decide +kernel
theorem dX4_readCondition_9 : decode cX4_readCondition 9 = .ok (.iload 4, 2) := by decide +kernel
theorem dX4_readCondition_11 : decode cX4_readCondition 11 = .ok (.sipush 400, 3) := by decide +kernel
theorem dX4_readCondition_14 : decode cX4_readCondition 14 = .ok (.if_icmp .ge 81, 3) := by decide +kernel
theorem dX4_readCondition_17 : decode cX4_readCondition 17 = .ok (.iconst 1, 1) := by decide +kernel
theorem dX4_readCondition_18 : decode cX4_readCondition 18 = .ok (.istore 5, 2) := by decide +kernel
theorem dX4_readCondition_20 : decode cX4_readCondition 20 = .ok (.iconst 0, 1) := by decide +kernel
theorem dX4_readCondition_21 : decode cX4_readCondition 21 = .ok (.istore 6, 2) := by decide +kernel
theorem dX4_readCondition_23 : decode cX4_readCondition 23 = .ok (.iload 5, 2) := by decide +kernel
theorem dX4_readCondition_25 : decode cX4_readCondition 25 = .ok (.ifCond .eq 44, 3) := by decide +kernel
theorem dX4_readCondition_28 : decode cX4_readCondition 28 = .ok (.iload 6, 2) := by decide +kernel
theorem dX4_readCondition_30 : decode cX4_readCondition 30 = .ok (.sipush 400, 3) := by decide +kernel
theorem dX4_readCondition_33 : decode cX4_readCondition 33 = .ok (.if_icmp .ge 36, 3) := by decide +kernel
theorem dX4_readCondition_36 : decode cX4_readCondition 36 = .ok (.aload_n 0, 1) := by decide +kernel
theorem dX4_readCondition_37 : decode cX4_readCondition 37 = .ok (.aload_n 1, 1) := by decide +kernel
theorem dX4_readCondition_38 : decode cX4_readCondition 38 = .ok (.iload_n 2, 1) := by decide +kernel
theorem dX4_readCondition_39 : decode cX4_readCondition 39 = .ok (.invokestatic 75, 3) := by decide +kernel
theorem dX4_readCondition_42 : decode cX4_readCondition 42 = .ok (.iload 6, 2) := by decide +kernel
theorem dX4_readCondition_44 : decode cX4_readCondition 44 = .ok (.ifCond .le 10, 3) := by decide +kernel
theorem dX4_readCondition_47 : decode cX4_readCondition 47 = .ok (.aload_n 1, 1) := by decide +kernel
theorem dX4_readCondition_48 : decode cX4_readCondition 48 = .ok (.sipush 1014, 3) := by decide +kernel
theorem dX4_readCondition_51 : decode cX4_readCondition 51 = .ok (.invokevirtual 78, 3) := by decide +kernel
theorem dX4_readCondition_54 : decode cX4_readCondition 54 = .ok (.aload_n 0, 1) := by decide +kernel
theorem dX4_readCondition_55 : decode cX4_readCondition 55 = .ok (.getstatic 82, 3) := by decide +kernel
theorem dX4_readCondition_58 : decode cX4_readCondition 58 = .ok (.invokevirtual 35, 3) := by decide +kernel
theorem dX4_readCondition_61 : decode cX4_readCondition 61 = .ok (.istore 5, 2) := by decide +kernel
theorem dX4_readCondition_63 : decode cX4_readCondition 63 = .ok (.iinc 6 1, 3) := by decide +kernel
theorem dX4_readCondition_66 : decode cX4_readCondition 66 = .ok (.goto (-43), 3) := by decide +kernel
theorem dX4_readCondition_69 : decode cX4_readCondition 69 = .ok (.iload 4, 2) := by decide +kernel
theorem dX4_readCondition_71 : decode cX4_readCondition 71 = .ok (.ifCond .le 10, 3) := by decide +kernel
theorem dX4_readCondition_74 : decode cX4_readCondition 74 = .ok (.aload_n 1, 1) := by decide +kernel
theorem dX4_readCondition_75 : decode cX4_readCondition 75 = .ok (.sipush 1015, 3) := by decide +kernel
theorem dX4_readCondition_78 : decode cX4_readCondition 78 = .ok (.invokevirtual 78, 3) := by decide +kernel
theorem dX4_readCondition_81 : decode cX4_readCondition 81 = .ok (.aload_n 0, 1) := by decide +kernel
theorem dX4_readCondition_82 : decode cX4_readCondition 82 = .ok (.getstatic 85, 3) := by decide +kernel
theorem dX4_readCondition_85 : decode cX4_readCondition 85 = .ok (.invokevirtual 35, 3) := by decide +kernel
theorem dX4_readCondition_88 : decode cX4_readCondition 88 = .ok (.istore_n 3, 1) := by decide +kernel
theorem dX4_readCondition_89 : decode cX4_readCondition 89 = .ok (.iinc 4 1, 3) := by decide +kernel
theorem dX4_readCondition_92 : decode cX4_readCondition 92 = .ok (.goto (-87), 3) := by decide +kernel
theorem dX4_readCondition_95 : decode cX4_readCondition 95 = .ok (.return_, 1) := by decide +kernel
theorem dX4_readAtom_0 : decode cX4_readAtom 0 = .ok (.aload_n 0, 1) := by decide +kernel
theorem dX4_readAtom_1 : decode cX4_readAtom 1 = .ok (.getstatic 88, 3) := by decide +kernel
theorem dX4_readAtom_4 : decode cX4_readAtom 4 = .ok (.invokevirtual 20, 3) := by decide +kernel
theorem dX4_readAtom_7 : decode cX4_readAtom 7 = .ok (.ifCond .ne 13, 3) := by decide +kernel
theorem dX4_readAtom_10 : decode cX4_readAtom 10 = .ok (.aload_n 0, 1) := by decide +kernel
theorem dX4_readAtom_11 : decode cX4_readAtom 11 = .ok (.getstatic 91, 3) := by decide +kernel
theorem dX4_readAtom_14 : decode cX4_readAtom 14 = .ok (.invokevirtual 20, 3) := by decide +kernel
theorem dX4_readAtom_17 : decode cX4_readAtom 17 = .ok (.ifCond .eq 7, 3) := by decide +kernel
theorem dX4_readAtom_20 : decode cX4_readAtom 20 = .ok (.iconst 1, 1) := by decide +kernel
theorem dX4_readAtom_21 : decode cX4_readAtom 21 = .ok (.goto 4, 3) := by decide +kernel
theorem dX4_readAtom_24 : decode cX4_readAtom 24 = .ok (.iconst 0, 1) := by decide +kernel
theorem dX4_readAtom_25 : decode cX4_readAtom 25 = .ok (.istore_n 3, 1) := by decide +kernel
theorem dX4_readAtom_26 : decode cX4_readAtom 26 = .ok (.iload_n 3, 1) := by decide +kernel
theorem dX4_readAtom_27 : decode cX4_readAtom 27 = .ok (.ifCond .eq 16, 3) := by decide +kernel
theorem dX4_readAtom_30 : decode cX4_readAtom 30 = .ok (.iload_n 2, 1) := by decide +kernel
theorem dX4_readAtom_31 : decode cX4_readAtom 31 = .ok (.bipush 6, 2) := by decide +kernel
theorem dX4_readAtom_33 : decode cX4_readAtom 33 = .ok (.if_icmp .lt 10, 3) := by decide +kernel
theorem dX4_readAtom_36 : decode cX4_readAtom 36 = .ok (.aload_n 0, 1) := by decide +kernel
theorem dX4_readAtom_37 : decode cX4_readAtom 37 = .ok (.invokevirtual 41, 3) := by decide +kernel
theorem dX4_readAtom_40 : decode cX4_readAtom 40 = .ok (.goto 148, 3) := by decide +kernel
theorem dX4_readAtom_43 : decode cX4_readAtom 43 = .ok (.aload_n 0, 1) := by decide +kernel
theorem dX4_readAtom_44 : decode cX4_readAtom 44 = .ok (.getstatic 88, 3) := by decide +kernel
theorem dX4_readAtom_47 : decode cX4_readAtom 47 = .ok (.invokevirtual 35, 3) := by decide +kernel
theorem dX4_readAtom_50 : decode cX4_readAtom 50 = .ok (.ifCond .eq 21, 3) := by decide +kernel
theorem dX4_readAtom_53 : decode cX4_readAtom 53 = .ok (.aload_n 0, 1) := by decide +kernel
theorem dX4_readAtom_54 : decode cX4_readAtom 54 = .ok (.aload_n 1, 1) := by decide +kernel
theorem dX4_readAtom_55 : decode cX4_readAtom 55 = .ok (.iload_n 2, 1) := by decide +kernel
theorem dX4_readAtom_56 : decode cX4_readAtom 56 = .ok (.iconst 1, 1) := by decide +kernel
theorem dX4_readAtom_57 : decode cX4_readAtom 57 = .ok (.iadd, 1) := by decide +kernel
theorem dX4_readAtom_58 : decode cX4_readAtom 58 = .ok (.invokestatic 75, 3) := by decide +kernel
theorem dX4_readAtom_61 : decode cX4_readAtom 61 = .ok (.aload_n 1, 1) := by decide +kernel
theorem dX4_readAtom_62 : decode cX4_readAtom 62 = .ok (.sipush 1010, 3) := by decide +kernel
theorem dX4_readAtom_65 : decode cX4_readAtom 65 = .ok (.invokevirtual 78, 3) := by decide +kernel
theorem dX4_readAtom_68 : decode cX4_readAtom 68 = .ok (.goto 120, 3) := by decide +kernel
theorem dX4_readAtom_71 : decode cX4_readAtom 71 = .ok (.aload_n 0, 1) := by decide +kernel
theorem dX4_readAtom_72 : decode cX4_readAtom 72 = .ok (.getstatic 91, 3) := by decide +kernel
theorem dX4_readAtom_75 : decode cX4_readAtom 75 = .ok (.invokevirtual 35, 3) := by decide +kernel
theorem dX4_readAtom_78 : decode cX4_readAtom 78 = .ok (.ifCond .eq 21, 3) := by decide +kernel
theorem dX4_readAtom_81 : decode cX4_readAtom 81 = .ok (.aload_n 0, 1) := by decide +kernel
theorem dX4_readAtom_82 : decode cX4_readAtom 82 = .ok (.aload_n 1, 1) := by decide +kernel
theorem dX4_readAtom_83 : decode cX4_readAtom 83 = .ok (.iload_n 2, 1) := by decide +kernel
theorem dX4_readAtom_84 : decode cX4_readAtom 84 = .ok (.iconst 1, 1) := by decide +kernel
theorem dX4_readAtom_85 : decode cX4_readAtom 85 = .ok (.iadd, 1) := by decide +kernel
theorem dX4_readAtom_86 : decode cX4_readAtom 86 = .ok (.invokestatic 67, 3) := by decide +kernel
theorem dX4_readAtom_89 : decode cX4_readAtom 89 = .ok (.aload_n 0, 1) := by decide +kernel
theorem dX4_readAtom_90 : decode cX4_readAtom 90 = .ok (.getstatic 94, 3) := by decide +kernel
theorem dX4_readAtom_93 : decode cX4_readAtom 93 = .ok (.invokevirtual 56, 3) := by decide +kernel
theorem dX4_readAtom_96 : decode cX4_readAtom 96 = .ok (.goto 92, 3) := by decide +kernel
theorem dX4_readAtom_99 : decode cX4_readAtom 99 = .ok (.aload_n 0, 1) := by decide +kernel
theorem dX4_readAtom_100 : decode cX4_readAtom 100 = .ok (.getstatic 97, 3) := by decide +kernel
theorem dX4_readAtom_103 : decode cX4_readAtom 103 = .ok (.invokevirtual 35, 3) := by decide +kernel
theorem dX4_readAtom_106 : decode cX4_readAtom 106 = .ok (.ifCond .eq 13, 3) := by decide +kernel
theorem dX4_readAtom_109 : decode cX4_readAtom 109 = .ok (.aload_n 1, 1) := by decide +kernel
theorem dX4_readAtom_110 : decode cX4_readAtom 110 = .ok (.sipush 1008, 3) := by decide +kernel
theorem dX4_readAtom_113 : decode cX4_readAtom 113 = .ok (.invokevirtual 78, 3) := by decide +kernel
theorem dX4_readAtom_116 : decode cX4_readAtom 116 = .ok (.goto 72, 3) := by decide +kernel
theorem dX4_readAtom_119 : decode cX4_readAtom 119 = .ok (.aload_n 0, 1) := by decide +kernel
theorem dX4_readAtom_120 : decode cX4_readAtom 120 = .ok (.getstatic 100, 3) := by decide +kernel
theorem dX4_readAtom_123 : decode cX4_readAtom 123 = .ok (.invokevirtual 35, 3) := by decide +kernel
theorem dX4_readAtom_126 : decode cX4_readAtom 126 = .ok (.ifCond .eq 13, 3) := by decide +kernel
theorem dX4_readAtom_129 : decode cX4_readAtom 129 = .ok (.aload_n 1, 1) := by decide +kernel
theorem dX4_readAtom_130 : decode cX4_readAtom 130 = .ok (.sipush 1009, 3) := by decide +kernel
theorem dX4_readAtom_133 : decode cX4_readAtom 133 = .ok (.invokevirtual 78, 3) := by decide +kernel
theorem dX4_readAtom_136 : decode cX4_readAtom 136 = .ok (.goto 52, 3) := by decide +kernel
theorem dX4_readAtom_139 : decode cX4_readAtom 139 = .ok (.aload_n 0, 1) := by decide +kernel
theorem dX4_readAtom_140 : decode cX4_readAtom 140 = .ok (.aload_n 1, 1) := by decide +kernel
theorem dX4_readAtom_141 : decode cX4_readAtom 141 = .ok (.invokestatic 103, 3) := by decide +kernel
theorem dX4_readAtom_144 : decode cX4_readAtom 144 = .ok (.aload_n 0, 1) := by decide +kernel
theorem dX4_readAtom_145 : decode cX4_readAtom 145 = .ok (.getstatic 106, 3) := by decide +kernel
theorem dX4_readAtom_148 : decode cX4_readAtom 148 = .ok (.invokevirtual 35, 3) := by decide +kernel
theorem dX4_readAtom_151 : decode cX4_readAtom 151 = .ok (.istore 4, 2) := by decide +kernel
theorem dX4_readAtom_153 : decode cX4_readAtom 153 = .ok (.iload 4, 2) := by decide +kernel
theorem dX4_readAtom_155 : decode cX4_readAtom 155 = .ok (.ifCond .ne 10, 3) := by decide +kernel
theorem dX4_readAtom_158 : decode cX4_readAtom 158 = .ok (.aload_n 0, 1) := by decide +kernel
theorem dX4_readAtom_159 : decode cX4_readAtom 159 = .ok (.getstatic 109, 3) := by decide +kernel
theorem dX4_readAtom_162 : decode cX4_readAtom 162 = .ok (.invokevirtual 56, 3) := by decide +kernel
theorem dX4_readAtom_165 : decode cX4_readAtom 165 = .ok (.aload_n 0, 1) := by decide +kernel
theorem dX4_readAtom_166 : decode cX4_readAtom 166 = .ok (.aload_n 1, 1) := by decide +kernel
theorem dX4_readAtom_167 : decode cX4_readAtom 167 = .ok (.invokestatic 103, 3) := by decide +kernel
theorem dX4_readAtom_170 : decode cX4_readAtom 170 = .ok (.aload_n 1, 1) := by decide +kernel
theorem dX4_readAtom_171 : decode cX4_readAtom 171 = .ok (.iload 4, 2) := by decide +kernel
theorem dX4_readAtom_173 : decode cX4_readAtom 173 = .ok (.ifCond .eq 9, 3) := by decide +kernel
theorem dX4_readAtom_176 : decode cX4_readAtom 176 = .ok (.sipush 1012, 3) := by decide +kernel
theorem dX4_readAtom_179 : decode cX4_readAtom 179 = .ok (.goto 6, 3) := by decide +kernel
theorem dX4_readAtom_182 : decode cX4_readAtom 182 = .ok (.sipush 1013, 3) := by decide +kernel
theorem dX4_readAtom_185 : decode cX4_readAtom 185 = .ok (.invokevirtual 78, 3) := by decide +kernel
theorem dX4_readAtom_188 : decode cX4_readAtom 188 = .ok (.return_, 1) := by decide +kernel
theorem dX4_readSum_0 : decode cX4_readSum 0 = .ok (.iconst 1, 1) := by decide +kernel
theorem dX4_readSum_1 : decode cX4_readSum 1 = .ok (.istore_n 2, 1) := by decide +kernel
theorem dX4_readSum_2 : decode cX4_readSum 2 = .ok (.iconst 0, 1) := by decide +kernel
theorem dX4_readSum_3 : decode cX4_readSum 3 = .ok (.istore_n 3, 1) := by decide +kernel
theorem dX4_readSum_4 : decode cX4_readSum 4 = .ok (.iload_n 2, 1) := by decide +kernel
theorem dX4_readSum_5 : decode cX4_readSum 5 = .ok (.ifCond .eq 43, 3) := by decide +kernel
theorem dX4_readSum_8 : decode cX4_readSum 8 = .ok (.iload_n 3, 1) := by decide +kernel
theorem dX4_readSum_9 : decode cX4_readSum 9 = .ok (.sipush 400, 3) := by decide +kernel
theorem dX4_readSum_12 : decode cX4_readSum 12 = .ok (.if_icmp .ge 36, 3) := by decide +kernel
theorem dX4_readSum_15 : decode cX4_readSum 15 = .ok (.aload_n 1, 1) := by decide +kernel
theorem dX4_readSum_16 : decode cX4_readSum 16 = .ok (.aload_n 0, 1) := by decide +kernel
theorem dX4_readSum_17 : decode cX4_readSum 17 = .ok (.invokevirtual 112, 3) := by decide +kernel
theorem dX4_readSum_20 : decode cX4_readSum 20 = .ok (.invokevirtual 78, 3) := by decide +kernel
theorem dX4_readSum_23 : decode cX4_readSum 23 = .ok (.iload_n 3, 1) := by decide +kernel
theorem dX4_readSum_24 : decode cX4_readSum 24 = .ok (.ifCond .le 10, 3) := by decide +kernel
theorem dX4_readSum_27 : decode cX4_readSum 27 = .ok (.aload_n 1, 1) := by decide +kernel
theorem dX4_readSum_28 : decode cX4_readSum 28 = .ok (.sipush 1011, 3) := by decide +kernel
theorem dX4_readSum_31 : decode cX4_readSum 31 = .ok (.invokevirtual 78, 3) := by decide +kernel
theorem dX4_readSum_34 : decode cX4_readSum 34 = .ok (.aload_n 0, 1) := by decide +kernel
theorem dX4_readSum_35 : decode cX4_readSum 35 = .ok (.getstatic 116, 3) := by decide +kernel
theorem dX4_readSum_38 : decode cX4_readSum 38 = .ok (.invokevirtual 35, 3) := by decide +kernel
theorem dX4_readSum_41 : decode cX4_readSum 41 = .ok (.istore_n 2, 1) := by decide +kernel
theorem dX4_readSum_42 : decode cX4_readSum 42 = .ok (.iinc 3 1, 3) := by decide +kernel
theorem dX4_readSum_45 : decode cX4_readSum 45 = .ok (.goto (-41), 3) := by decide +kernel
theorem dX4_readSum_48 : decode cX4_readSum 48 = .ok (.return_, 1) := by decide +kernel
theorem dX5_init_0 : decode cX5_init 0 = .ok (.aload_n 0, 1) := by decide +kernel
theorem dX5_init_1 : decode cX5_init 1 = .ok (.invokespecial 3, 3) := by decide +kernel
theorem dX5_init_4 : decode cX5_init 4 = .ok (.aload_n 0, 1) := by decide +kernel
theorem dX5_init_5 : decode cX5_init 5 = .ok (.bipush 8, 2) := by decide +kernel
theorem dX5_init_7 : decode cX5_init 7 = .ok (.newarray .int, 2) := by decide +kernel
theorem dX5_init_9 : decode cX5_init 9 = .ok (.putfield 9, 3) := by decide +kernel
theorem dX5_init_12 : decode cX5_init 12 = .ok (.aload_n 0, 1) := by decide +kernel
theorem dX5_init_13 : decode cX5_init 13 = .ok (.bipush 8, 2) := by decide +kernel
theorem dX5_init_15 : decode cX5_init 15 = .ok (.newarray .int, 2) := by decide +kernel
theorem dX5_init_17 : decode cX5_init 17 = .ok (.putfield 15, 3) := by decide +kernel
theorem dX5_init_20 : decode cX5_init 20 = .ok (.aload_n 0, 1) := by decide +kernel
theorem dX5_init_21 : decode cX5_init 21 = .ok (.bipush 8, 2) := by decide +kernel
theorem dX5_init_23 : decode cX5_init 23 = .ok (.newarray .int, 2) := by decide +kernel
theorem dX5_init_25 : decode cX5_init 25 = .ok (.putfield 18, 3) := by decide +kernel
theorem dX5_init_28 : decode cX5_init 28 = .ok (.aload_n 0, 1) := by decide +kernel
theorem dX5_init_29 : decode cX5_init 29 = .ok (.bipush 8, 2) := by decide +kernel
theorem dX5_init_31 : decode cX5_init 31 = .ok (.newarray .int, 2) := by decide +kernel
theorem dX5_init_33 : decode cX5_init 33 = .ok (.putfield 21, 3) := by decide +kernel
theorem dX5_init_36 : decode cX5_init 36 = .ok (.aload_n 0, 1) := by decide +kernel
theorem dX5_init_37 : decode cX5_init 37 = .ok (.bipush 8, 2) := by decide +kernel
theorem dX5_init_39 : decode cX5_init 39 = .ok (.newarray .int, 2) := by decide +kernel
theorem dX5_init_41 : decode cX5_init 41 = .ok (.putfield 24, 3) := by decide +kernel
theorem dX5_init_44 : decode cX5_init 44 = .ok (.aload_n 0, 1) := by decide +kernel
theorem dX5_init_45 : decode cX5_init 45 = .ok (.bipush 8, 2) := by decide +kernel
theorem dX5_init_47 : decode cX5_init 47 = .ok (.newarray .int, 2) := by decide +kernel
theorem dX5_init_49 : decode cX5_init 49 = .ok (.putfield 27, 3) := by decide +kernel
theorem dX5_init_52 : decode cX5_init 52 = .ok (.aload_n 0, 1) := by decide +kernel
theorem dX5_init_53 : decode cX5_init 53 = .ok (.sipush 255, 3) := by decide +kernel
theorem dX5_init_56 : decode cX5_init 56 = .ok (.putfield 30, 3) := by decide +kernel
theorem dX5_init_59 : decode cX5_init 59 = .ok (.iconst 0, 1) := by decide +kernel
theorem dX5_init_60 : decode cX5_init 60 = .ok (.istore_n 1, 1) := by decide +kernel
theorem dX5_init_61 : decode cX5_init 61 = .ok (.iload_n 1, 1) := by decide +kernel
theorem dX5_init_62 : decode cX5_init 62 = .ok (.bipush 8, 2) := by decide +kernel
theorem dX5_init_64 : decode cX5_init 64 = .ok (.if_icmp .ge 23, 3) := by decide +kernel
theorem dX5_init_67 : decode cX5_init 67 = .ok (.aload_n 0, 1) := by decide +kernel
theorem dX5_init_68 : decode cX5_init 68 = .ok (.getfield 24, 3) := by decide +kernel
theorem dX5_init_71 : decode cX5_init 71 = .ok (.iload_n 1, 1) := by decide +kernel
theorem dX5_init_72 : decode cX5_init 72 = .ok (.iload_n 1, 1) := by decide +kernel
theorem dX5_init_73 : decode cX5_init 73 = .ok (.iastore, 1) := by decide +kernel
theorem dX5_init_74 : decode cX5_init 74 = .ok (.aload_n 0, 1) := by decide +kernel
theorem dX5_init_75 : decode cX5_init 75 = .ok (.getfield 27, 3) := by decide +kernel
theorem dX5_init_78 : decode cX5_init 78 = .ok (.iload_n 1, 1) := by decide +kernel
theorem dX5_init_79 : decode cX5_init 79 = .ok (.iconst 3, 1) := by decide +kernel
theorem dX5_init_80 : decode cX5_init 80 = .ok (.iastore, 1) := by decide +kernel
theorem dX5_init_81 : decode cX5_init 81 = .ok (.iinc 1 1, 3) := by decide +kernel
theorem dX5_init_84 : decode cX5_init 84 = .ok (.goto (-23), 3) := by decide +kernel
theorem dX5_init_87 : decode cX5_init 87 = .ok (.return_, 1) := by decide +kernel
theorem dX5_become_0 : decode cX5_become 0 = .ok (.aload_n 1, 1) := by decide +kernel
theorem dX5_become_1 : decode cX5_become 1 = .ok (.getfield 9, 3) := by decide +kernel
theorem dX5_become_4 : decode cX5_become 4 = .ok (.iconst 0, 1) := by decide +kernel
theorem dX5_become_5 : decode cX5_become 5 = .ok (.aload_n 0, 1) := by decide +kernel
theorem dX5_become_6 : decode cX5_become 6 = .ok (.getfield 9, 3) := by decide +kernel
theorem dX5_become_9 : decode cX5_become 9 = .ok (.iconst 0, 1) := by decide +kernel
theorem dX5_become_10 : decode cX5_become 10 = .ok (.bipush 8, 2) := by decide +kernel
theorem dX5_become_12 : decode cX5_become 12 = .ok (.invokestatic 34, 3) := by decide +kernel
theorem dX5_become_15 : decode cX5_become 15 = .ok (.aload_n 1, 1) := by decide +kernel
theorem dX5_become_16 : decode cX5_become 16 = .ok (.getfield 15, 3) := by decide +kernel
theorem dX5_become_19 : decode cX5_become 19 = .ok (.iconst 0, 1) := by decide +kernel
theorem dX5_become_20 : decode cX5_become 20 = .ok (.aload_n 0, 1) := by decide +kernel
theorem dX5_become_21 : decode cX5_become 21 = .ok (.getfield 15, 3) := by decide +kernel
theorem dX5_become_24 : decode cX5_become 24 = .ok (.iconst 0, 1) := by decide +kernel
theorem dX5_become_25 : decode cX5_become 25 = .ok (.bipush 8, 2) := by decide +kernel
theorem dX5_become_27 : decode cX5_become 27 = .ok (.invokestatic 34, 3) := by decide +kernel
theorem dX5_become_30 : decode cX5_become 30 = .ok (.aload_n 1, 1) := by decide +kernel
theorem dX5_become_31 : decode cX5_become 31 = .ok (.getfield 18, 3) := by decide +kernel
theorem dX5_become_34 : decode cX5_become 34 = .ok (.iconst 0, 1) := by decide +kernel
theorem dX5_become_35 : decode cX5_become 35 = .ok (.aload_n 0, 1) := by decide +kernel
theorem dX5_become_36 : decode cX5_become 36 = .ok (.getfield 18, 3) := by decide +kernel
theorem dX5_become_39 : decode cX5_become 39 = .ok (.iconst 0, 1) := by decide +kernel
theorem dX5_become_40 : decode cX5_become 40 = .ok (.bipush 8, 2) := by decide +kernel
theorem dX5_become_42 : decode cX5_become 42 = .ok (.invokestatic 34, 3) := by decide +kernel
theorem dX5_become_45 : decode cX5_become 45 = .ok (.aload_n 1, 1) := by decide +kernel
theorem dX5_become_46 : decode cX5_become 46 = .ok (.getfield 21, 3) := by decide +kernel
theorem dX5_become_49 : decode cX5_become 49 = .ok (.iconst 0, 1) := by decide +kernel
theorem dX5_become_50 : decode cX5_become 50 = .ok (.aload_n 0, 1) := by decide +kernel
theorem dX5_become_51 : decode cX5_become 51 = .ok (.getfield 21, 3) := by decide +kernel
theorem dX5_become_54 : decode cX5_become 54 = .ok (.iconst 0, 1) := by decide +kernel
theorem dX5_become_55 : decode cX5_become 55 = .ok (.bipush 8, 2) := by decide +kernel
theorem dX5_become_57 : decode cX5_become 57 = .ok (.invokestatic 34, 3) := by decide +kernel
theorem dX5_become_60 : decode cX5_become 60 = .ok (.aload_n 1, 1) := by decide +kernel
theorem dX5_become_61 : decode cX5_become 61 = .ok (.getfield 24, 3) := by decide +kernel
theorem dX5_become_64 : decode cX5_become 64 = .ok (.iconst 0, 1) := by decide +kernel
theorem dX5_become_65 : decode cX5_become 65 = .ok (.aload_n 0, 1) := by decide +kernel
theorem dX5_become_66 : decode cX5_become 66 = .ok (.getfield 24, 3) := by decide +kernel
theorem dX5_become_69 : decode cX5_become 69 = .ok (.iconst 0, 1) := by decide +kernel
theorem dX5_become_70 : decode cX5_become 70 = .ok (.bipush 8, 2) := by decide +kernel
theorem dX5_become_72 : decode cX5_become 72 = .ok (.invokestatic 34, 3) := by decide +kernel
theorem dX5_become_75 : decode cX5_become 75 = .ok (.aload_n 1, 1) := by decide +kernel
theorem dX5_become_76 : decode cX5_become 76 = .ok (.getfield 27, 3) := by decide +kernel
theorem dX5_become_79 : decode cX5_become 79 = .ok (.iconst 0, 1) := by decide +kernel
theorem dX5_become_80 : decode cX5_become 80 = .ok (.aload_n 0, 1) := by decide +kernel
theorem dX5_become_81 : decode cX5_become 81 = .ok (.getfield 27, 3) := by decide +kernel
theorem dX5_become_84 : decode cX5_become 84 = .ok (.iconst 0, 1) := by decide +kernel
theorem dX5_become_85 : decode cX5_become 85 = .ok (.bipush 8, 2) := by decide +kernel
theorem dX5_become_87 : decode cX5_become 87 = .ok (.invokestatic 34, 3) := by decide +kernel
theorem dX5_become_90 : decode cX5_become 90 = .ok (.aload_n 0, 1) := by decide +kernel
theorem dX5_become_91 : decode cX5_become 91 = .ok (.aload_n 1, 1) := by decide +kernel
theorem dX5_become_92 : decode cX5_become 92 = .ok (.getfield 30, 3) := by decide +kernel
theorem dX5_become_95 : decode cX5_become 95 = .ok (.putfield 30, 3) := by decide +kernel
theorem dX5_become_98 : decode cX5_become 98 = .ok (.aload_n 0, 1) := by decide +kernel
theorem dX5_become_99 : decode cX5_become 99 = .ok (.aload_n 1, 1) := by decide +kernel
theorem dX5_become_100 : decode cX5_become 100 = .ok (.getfield 40, 3) := by decide +kernel
theorem dX5_become_103 : decode cX5_become 103 = .ok (.putfield 40, 3) := by decide +kernel
theorem dX5_become_106 : decode cX5_become 106 = .ok (.aload_n 0, 1) := by decide +kernel
theorem dX5_become_107 : decode cX5_become 107 = .ok (.aload_n 1, 1) := by decide +kernel
theorem dX5_become_108 : decode cX5_become 108 = .ok (.getfield 43, 3) := by decide +kernel
theorem dX5_become_111 : decode cX5_become 111 = .ok (.putfield 43, 3) := by decide +kernel
theorem dX5_become_114 : decode cX5_become 114 = .ok (.return_, 1) := by decide +kernel
theorem dX5_isHung_0 : decode cX5_isHung 0 = .ok (.aload_n 0, 1) := by decide +kernel
theorem dX5_isHung_1 : decode cX5_isHung 1 = .ok (.getfield 30, 3) := by decide +kernel
theorem dX5_isHung_4 : decode cX5_isHung 4 = .ok (.iload_n 1, 1) := by decide +kernel
theorem dX5_isHung_5 : decode cX5_isHung 5 = .ok (.ishr, 1) := by decide +kernel
theorem dX5_isHung_6 : decode cX5_isHung 6 = .ok (.iconst 1, 1) := by decide +kernel
theorem dX5_isHung_7 : decode cX5_isHung 7 = .ok (.iand, 1) := by decide +kernel
theorem dX5_isHung_8 : decode cX5_isHung 8 = .ok (.iconst 1, 1) := by decide +kernel
theorem dX5_isHung_9 : decode cX5_isHung 9 = .ok (.if_icmp .ne 7, 3) := by decide +kernel
theorem dX5_isHung_12 : decode cX5_isHung 12 = .ok (.iconst 1, 1) := by decide +kernel
theorem dX5_isHung_13 : decode cX5_isHung 13 = .ok (.goto 4, 3) := by decide +kernel
theorem dX5_isHung_16 : decode cX5_isHung 16 = .ok (.iconst 0, 1) := by decide +kernel
theorem dX5_isHung_17 : decode cX5_isHung 17 = .ok (.ireturn, 1) := by decide +kernel
theorem dX5_setHung_0 : decode cX5_setHung 0 = .ok (.iconst 1, 1) := by decide +kernel
theorem dX5_setHung_1 : decode cX5_setHung 1 = .ok (.iload_n 1, 1) := by decide +kernel
theorem dX5_setHung_2 : decode cX5_setHung 2 = .ok (.ishl, 1) := by decide +kernel
theorem dX5_setHung_3 : decode cX5_setHung 3 = .ok (.istore_n 3, 1) := by decide +kernel
theorem dX5_setHung_4 : decode cX5_setHung 4 = .ok (.aload_n 0, 1) := by decide +kernel
theorem dX5_setHung_5 : decode cX5_setHung 5 = .ok (.iload_n 2, 1) := by decide +kernel
theorem dX5_setHung_6 : decode cX5_setHung 6 = .ok (.ifCond .eq 12, 3) := by decide +kernel
theorem dX5_setHung_9 : decode cX5_setHung 9 = .ok (.aload_n 0, 1) := by decide +kernel
theorem dX5_setHung_10 : decode cX5_setHung 10 = .ok (.getfield 30, 3) := by decide +kernel
theorem dX5_setHung_13 : decode cX5_setHung 13 = .ok (.iload_n 3, 1) := by decide +kernel
theorem dX5_setHung_14 : decode cX5_setHung 14 = .ok (.ior, 1) := by decide +kernel
theorem dX5_setHung_15 : decode cX5_setHung 15 = .ok (.goto 11, 3) := by decide +kernel
theorem dX5_setHung_18 : decode cX5_setHung 18 = .ok (.aload_n 0, 1) := by decide +kernel
theorem dX5_setHung_19 : decode cX5_setHung 19 = .ok (.getfield 30, 3) := by decide +kernel
theorem dX5_setHung_22 : decode cX5_setHung 22 = .ok (.iload_n 3, 1) := by decide +kernel
theorem dX5_setHung_23 : decode cX5_setHung 23 = .ok (.iconst (-1), 1) := by decide +kernel
theorem dX5_setHung_24 : decode cX5_setHung 24 = .ok (.ixor, 1) := by decide +kernel
theorem dX5_setHung_25 : decode cX5_setHung 25 = .ok (.iand, 1) := by decide +kernel
theorem dX5_setHung_26 : decode cX5_setHung 26 = .ok (.putfield 30, 3) := by decide +kernel
theorem dX5_setHung_29 : decode cX5_setHung 29 = .ok (.return_, 1) := by decide +kernel
theorem dX5_partAt_0 : decode cX5_partAt 0 = .ok (.iconst 0, 1) := by decide +kernel
theorem dX5_partAt_1 : decode cX5_partAt 1 = .ok (.istore_n 2, 1) := by decide +kernel
theorem dX5_partAt_2 : decode cX5_partAt 2 = .ok (.iload_n 2, 1) := by decide +kernel
theorem dX5_partAt_3 : decode cX5_partAt 3 = .ok (.bipush 8, 2) := by decide +kernel
theorem dX5_partAt_5 : decode cX5_partAt 5 = .ok (.if_icmp .ge 21, 3) := by decide +kernel
theorem dX5_partAt_8 : decode cX5_partAt 8 = .ok (.aload_n 0, 1) := by decide +kernel
theorem dX5_partAt_9 : decode cX5_partAt 9 = .ok (.getfield 24, 3) := by decide +kernel
theorem dX5_partAt_12 : decode cX5_partAt 12 = .ok (.iload_n 2, 1) := by decide +kernel
theorem dX5_partAt_13 : decode cX5_partAt 13 = .ok (.iaload, 1) := by decide +kernel
theorem dX5_partAt_14 : decode cX5_partAt 14 = .ok (.iload_n 1, 1) := by decide +kernel
theorem dX5_partAt_15 : decode cX5_partAt 15 = .ok (.if_icmp .ne 5, 3) := by decide +kernel
theorem dX5_partAt_18 : decode cX5_partAt 18 = .ok (.iload_n 2, 1) := by decide +kernel
theorem dX5_partAt_19 : decode cX5_partAt 19 = .ok (.ireturn, 1) := by decide +kernel
theorem dX5_partAt_20 : decode cX5_partAt 20 = .ok (.iinc 2 1, 3) := by decide +kernel
theorem dX5_partAt_23 : decode cX5_partAt 23 = .ok (.goto (-21), 3) := by decide +kernel
theorem dX5_partAt_26 : decode cX5_partAt 26 = .ok (.iconst 0, 1) := by decide +kernel
theorem dX5_partAt_27 : decode cX5_partAt 27 = .ok (.ireturn, 1) := by decide +kernel
theorem dX5_wetParts_0 : decode cX5_wetParts 0 = .ok (.iconst 0, 1) := by decide +kernel
theorem dX5_wetParts_1 : decode cX5_wetParts 1 = .ok (.istore_n 1, 1) := by decide +kernel
theorem dX5_wetParts_2 : decode cX5_wetParts 2 = .ok (.iconst 0, 1) := by decide +kernel
theorem dX5_wetParts_3 : decode cX5_wetParts 3 = .ok (.istore_n 2, 1) := by decide +kernel
theorem dX5_wetParts_4 : decode cX5_wetParts 4 = .ok (.iload_n 2, 1) := by decide +kernel
theorem dX5_wetParts_5 : decode cX5_wetParts 5 = .ok (.bipush 8, 2) := by decide +kernel
theorem dX5_wetParts_7 : decode cX5_wetParts 7 = .ok (.if_icmp .ge 24, 3) := by decide +kernel
theorem dX5_wetParts_10 : decode cX5_wetParts 10 = .ok (.aload_n 0, 1) := by decide +kernel
theorem dX5_wetParts_11 : decode cX5_wetParts 11 = .ok (.getfield 18, 3) := by decide +kernel
theorem dX5_wetParts_14 : decode cX5_wetParts 14 = .ok (.iload_n 2, 1) := by decide +kernel
theorem dX5_wetParts_15 : decode cX5_wetParts 15 = .ok (.iaload, 1) := by decide +kernel
theorem dX5_wetParts_16 : decode cX5_wetParts 16 = .ok (.ifCond .le 9, 3) := by decide +kernel
theorem dX5_wetParts_19 : decode cX5_wetParts 19 = .ok (.iload_n 1, 1) := by decide +kernel
theorem dX5_wetParts_20 : decode cX5_wetParts 20 = .ok (.iconst 1, 1) := by decide +kernel
theorem dX5_wetParts_21 : decode cX5_wetParts 21 = .ok (.iload_n 2, 1) := by decide +kernel
theorem dX5_wetParts_22 : decode cX5_wetParts 22 = .ok (.ishl, 1) := by decide +kernel
theorem dX5_wetParts_23 : decode cX5_wetParts 23 = .ok (.ior, 1) := by decide +kernel
theorem dX5_wetParts_24 : decode cX5_wetParts 24 = .ok (.istore_n 1, 1) := by decide +kernel
theorem dX5_wetParts_25 : decode cX5_wetParts 25 = .ok (.iinc 2 1, 3) := by decide +kernel
theorem dX5_wetParts_28 : decode cX5_wetParts 28 = .ok (.goto (-24), 3) := by decide +kernel
theorem dX5_wetParts_31 : decode cX5_wetParts 31 = .ok (.iload_n 1, 1) := by decide +kernel
theorem dX5_wetParts_32 : decode cX5_wetParts 32 = .ok (.ireturn, 1) := by decide +kernel
theorem dX5_allStains_0 : decode cX5_allStains 0 = .ok (.iconst 0, 1) := by decide +kernel
theorem dX5_allStains_1 : decode cX5_allStains 1 = .ok (.istore_n 1, 1) := by decide +kernel
theorem dX5_allStains_2 : decode cX5_allStains 2 = .ok (.iconst 0, 1) := by decide +kernel
theorem dX5_allStains_3 : decode cX5_allStains 3 = .ok (.istore_n 2, 1) := by decide +kernel
theorem dX5_allStains_4 : decode cX5_allStains 4 = .ok (.iload_n 2, 1) := by decide +kernel
theorem dX5_allStains_5 : decode cX5_allStains 5 = .ok (.bipush 8, 2) := by decide +kernel
theorem dX5_allStains_7 : decode cX5_allStains 7 = .ok (.if_icmp .ge 21, 3) := by decide +kernel
theorem dX5_allStains_10 : decode cX5_allStains 10 = .ok (.iload_n 1, 1) := by decide +kernel
theorem dX5_allStains_11 : decode cX5_allStains 11 = .ok (.aload_n 0, 1) := by decide +kernel
theorem dX5_allStains_12 : decode cX5_allStains 12 = .ok (.getfield 21, 3) := by decide +kernel
theorem dX5_allStains_15 : decode cX5_allStains 15 = .ok (.iload_n 2, 1) := by decide +kernel
theorem dX5_allStains_16 : decode cX5_allStains 16 = .ok (.iaload, 1) := by decide +kernel
theorem dX5_allStains_17 : decode cX5_allStains 17 = .ok (.invokestatic 46, 3) := by decide +kernel
theorem dX5_allStains_20 : decode cX5_allStains 20 = .ok (.iadd, 1) := by decide +kernel
theorem dX5_allStains_21 : decode cX5_allStains 21 = .ok (.istore_n 1, 1) := by decide +kernel
theorem dX5_allStains_22 : decode cX5_allStains 22 = .ok (.iinc 2 1, 3) := by decide +kernel
theorem dX5_allStains_25 : decode cX5_allStains 25 = .ok (.goto (-21), 3) := by decide +kernel
theorem dX5_allStains_28 : decode cX5_allStains 28 = .ok (.iload_n 1, 1) := by decide +kernel
theorem dX5_allStains_29 : decode cX5_allStains 29 = .ok (.ireturn, 1) := by decide +kernel
theorem dX5_scrub_0 : decode cX5_scrub 0 = .ok (.aload_n 0, 1) := by decide +kernel
theorem dX5_scrub_1 : decode cX5_scrub 1 = .ok (.getfield 21, 3) := by decide +kernel
theorem dX5_scrub_4 : decode cX5_scrub 4 = .ok (.iload_n 1, 1) := by decide +kernel
theorem dX5_scrub_5 : decode cX5_scrub 5 = .ok (.iaload, 1) := by decide +kernel
theorem dX5_scrub_6 : decode cX5_scrub 6 = .ok (.iload 4, 2) := by decide +kernel
theorem dX5_scrub_8 : decode cX5_scrub 8 = .ok (.iand, 1) := by decide +kernel
theorem dX5_scrub_9 : decode cX5_scrub 9 = .ok (.istore 5, 2) := by decide +kernel
theorem dX5_scrub_11 : decode cX5_scrub 11 = .ok (.aload_n 0, 1) := by decide +kernel
theorem dX5_scrub_12 : decode cX5_scrub 12 = .ok (.getfield 9, 3) := by decide +kernel
theorem dX5_scrub_15 : decode cX5_scrub 15 = .ok (.iload_n 1, 1) := by decide +kernel
theorem dX5_scrub_16 : decode cX5_scrub 16 = .ok (.iconst 0, 1) := by decide +kernel
theorem dX5_scrub_17 : decode cX5_scrub 17 = .ok (.aload_n 0, 1) := by decide +kernel
theorem dX5_scrub_18 : decode cX5_scrub 18 = .ok (.getfield 9, 3) := by decide +kernel
theorem dX5_scrub_21 : decode cX5_scrub 21 = .ok (.iload_n 1, 1) := by decide +kernel
theorem dX5_scrub_22 : decode cX5_scrub 22 = .ok (.iaload, 1) := by decide +kernel
theorem dX5_scrub_23 : decode cX5_scrub 23 = .ok (.iload_n 2, 1) := by decide +kernel
theorem dX5_scrub_24 : decode cX5_scrub 24 = .ok (.isub, 1) := by decide +kernel
theorem dX5_scrub_25 : decode cX5_scrub 25 = .ok (.invokestatic 52, 3) := by decide +kernel
theorem dX5_scrub_28 : decode cX5_scrub 28 = .ok (.iastore, 1) := by decide +kernel
theorem dX5_scrub_29 : decode cX5_scrub 29 = .ok (.aload_n 0, 1) := by decide +kernel
theorem dX5_scrub_30 : decode cX5_scrub 30 = .ok (.getfield 21, 3) := by decide +kernel
theorem dX5_scrub_33 : decode cX5_scrub 33 = .ok (.iload_n 1, 1) := by decide +kernel
theorem dX5_scrub_34 : decode cX5_scrub 34 = .ok (.dup2, 1) := by decide +kernel
theorem dX5_scrub_35 : decode cX5_scrub 35 = .ok (.iaload, 1) := by decide +kernel
theorem dX5_scrub_36 : decode cX5_scrub 36 = .ok (.iload 4, 2) := by decide +kernel
theorem dX5_scrub_38 : decode cX5_scrub 38 = .ok (.iconst (-1), 1) := by decide +kernel
theorem dX5_scrub_39 : decode cX5_scrub 39 = .ok (.ixor, 1) := by decide +kernel
theorem dX5_scrub_40 : decode cX5_scrub 40 = .ok (.iand, 1) := by decide +kernel
theorem dX5_scrub_41 : decode cX5_scrub 41 = .ok (.iastore, 1) := by decide +kernel
theorem dX5_scrub_42 : decode cX5_scrub 42 = .ok (.aload_n 0, 1) := by decide +kernel
theorem dX5_scrub_43 : decode cX5_scrub 43 = .ok (.getfield 15, 3) := by decide +kernel
theorem dX5_scrub_46 : decode cX5_scrub 46 = .ok (.iload_n 1, 1) := by decide +kernel
theorem dX5_scrub_47 : decode cX5_scrub 47 = .ok (.bipush 9, 2) := by decide +kernel
theorem dX5_scrub_49 : decode cX5_scrub 49 = .ok (.aload_n 0, 1) := by decide +kernel
theorem dX5_scrub_50 : decode cX5_scrub 50 = .ok (.getfield 15, 3) := by decide +kernel
theorem dX5_scrub_53 : decode cX5_scrub 53 = .ok (.iload_n 1, 1) := by decide +kernel
theorem dX5_scrub_54 : decode cX5_scrub 54 = .ok (.iaload, 1) := by decide +kernel
theorem dX5_scrub_55 : decode cX5_scrub 55 = .ok (.iconst 1, 1) := by decide +kernel
theorem dX5_scrub_56 : decode cX5_scrub 56 = .ok (.iadd, 1) := by decide +kernel
theorem dX5_scrub_57 : decode cX5_scrub 57 = .ok (.iload_n 3, 1) := by decide +kernel
theorem dX5_scrub_58 : decode cX5_scrub 58 = .ok (.iadd, 1) := by decide +kernel
theorem dX5_scrub_59 : decode cX5_scrub 59 = .ok (.invokestatic 58, 3) := by decide +kernel
theorem dX5_scrub_62 : decode cX5_scrub 62 = .ok (.iastore, 1) := by decide +kernel
theorem dX5_scrub_63 : decode cX5_scrub 63 = .ok (.aload_n 0, 1) := by decide +kernel
theorem dX5_scrub_64 : decode cX5_scrub 64 = .ok (.getfield 18, 3) := by decide +kernel
theorem dX5_scrub_67 : decode cX5_scrub 67 = .ok (.iload_n 1, 1) := by decide +kernel
theorem dX5_scrub_68 : decode cX5_scrub 68 = .ok (.bipush 9, 2) := by decide +kernel
theorem dX5_scrub_70 : decode cX5_scrub 70 = .ok (.iastore, 1) := by decide +kernel
theorem dX5_scrub_71 : decode cX5_scrub 71 = .ok (.aload_n 0, 1) := by decide +kernel
theorem dX5_scrub_72 : decode cX5_scrub 72 = .ok (.iload_n 1, 1) := by decide +kernel
theorem dX5_scrub_73 : decode cX5_scrub 73 = .ok (.iconst 0, 1) := by decide +kernel
theorem dX5_scrub_74 : decode cX5_scrub 74 = .ok (.invokevirtual 61, 3) := by decide +kernel
theorem dX5_scrub_77 : decode cX5_scrub 77 = .ok (.iload 5, 2) := by decide +kernel
theorem dX5_scrub_79 : decode cX5_scrub 79 = .ok (.ireturn, 1) := by decide +kernel
theorem dX5_air_0 : decode cX5_air 0 = .ok (.iconst 0, 1) := by decide +kernel
theorem dX5_air_1 : decode cX5_air 1 = .ok (.istore_n 2, 1) := by decide +kernel
theorem dX5_air_2 : decode cX5_air 2 = .ok (.iconst 0, 1) := by decide +kernel
theorem dX5_air_3 : decode cX5_air 3 = .ok (.istore_n 3, 1) := by decide +kernel
theorem dX5_air_4 : decode cX5_air 4 = .ok (.iload_n 3, 1) := by decide +kernel
theorem dX5_air_5 : decode cX5_air 5 = .ok (.bipush 8, 2) := by decide +kernel
theorem dX5_air_7 : decode cX5_air 7 = .ok (.if_icmp .ge 96, 3) := by decide +kernel
theorem dX5_air_10 : decode cX5_air 10 = .ok (.aload_n 0, 1) := by decide +kernel
theorem dX5_air_11 : decode cX5_air 11 = .ok (.iload_n 3, 1) := by decide +kernel
theorem dX5_air_12 : decode cX5_air 12 = .ok (.invokevirtual 65, 3) := by decide +kernel
theorem dX5_air_15 : decode cX5_air 15 = .ok (.ifCond .ne 6, 3) := by decide +kernel
theorem dX5_air_18 : decode cX5_air 18 = .ok (.goto 79, 3) := by decide +kernel
theorem dX5_air_21 : decode cX5_air 21 = .ok (.aload_n 0, 1) := by decide +kernel
theorem dX5_air_22 : decode cX5_air 22 = .ok (.getfield 18, 3) := by decide +kernel
theorem dX5_air_25 : decode cX5_air 25 = .ok (.iload_n 3, 1) := by decide +kernel
theorem dX5_air_26 : decode cX5_air 26 = .ok (.iaload, 1) := by decide +kernel
theorem dX5_air_27 : decode cX5_air 27 = .ok (.ifCond .le 46, 3) := by decide +kernel
theorem dX5_air_30 : decode cX5_air 30 = .ok (.aload_n 0, 1) := by decide +kernel
theorem dX5_air_31 : decode cX5_air 31 = .ok (.getfield 18, 3) := by decide +kernel
theorem dX5_air_34 : decode cX5_air 34 = .ok (.iload_n 3, 1) := by decide +kernel
theorem dX5_air_35 : decode cX5_air 35 = .ok (.iconst 0, 1) := by decide +kernel
theorem dX5_air_36 : decode cX5_air 36 = .ok (.aload_n 0, 1) := by decide +kernel
theorem dX5_air_37 : decode cX5_air 37 = .ok (.getfield 18, 3) := by decide +kernel
theorem dX5_air_40 : decode cX5_air 40 = .ok (.iload_n 3, 1) := by decide +kernel
theorem dX5_air_41 : decode cX5_air 41 = .ok (.iaload, 1) := by decide +kernel
theorem dX5_air_42 : decode cX5_air 42 = .ok (.aload_n 1, 1) := by decide +kernel
theorem dX5_air_43 : decode cX5_air 43 = .ok (.aload_n 0, 1) := by decide +kernel
theorem dX5_air_44 : decode cX5_air 44 = .ok (.iload_n 3, 1) := by decide +kernel
theorem dX5_air_45 : decode cX5_air 45 = .ok (.invokevirtual 69, 3) := by decide +kernel
theorem dX5_air_48 : decode cX5_air 48 = .ok (.isub, 1) := by decide +kernel
theorem dX5_air_49 : decode cX5_air 49 = .ok (.invokestatic 52, 3) := by decide +kernel
theorem dX5_air_52 : decode cX5_air 52 = .ok (.iastore, 1) := by decide +kernel
theorem dX5_air_53 : decode cX5_air 53 = .ok (.iload_n 2, 1) := by decide +kernel
theorem dX5_air_54 : decode cX5_air 54 = .ok (.aload_n 0, 1) := by decide +kernel
theorem dX5_air_55 : decode cX5_air 55 = .ok (.getfield 18, 3) := by decide +kernel
theorem dX5_air_58 : decode cX5_air 58 = .ok (.iload_n 3, 1) := by decide +kernel
theorem dX5_air_59 : decode cX5_air 59 = .ok (.iaload, 1) := by decide +kernel
theorem dX5_air_60 : decode cX5_air 60 = .ok (.ifCond .ne 7, 3) := by decide +kernel
theorem dX5_air_63 : decode cX5_air 63 = .ok (.iconst 1, 1) := by decide +kernel
theorem dX5_air_64 : decode cX5_air 64 = .ok (.goto 4, 3) := by decide +kernel
theorem dX5_air_67 : decode cX5_air 67 = .ok (.iconst 0, 1) := by decide +kernel
theorem dX5_air_68 : decode cX5_air 68 = .ok (.iadd, 1) := by decide +kernel
theorem dX5_air_69 : decode cX5_air 69 = .ok (.istore_n 2, 1) := by decide +kernel
theorem dX5_air_70 : decode cX5_air 70 = .ok (.goto 27, 3) := by decide +kernel
theorem dX5_air_73 : decode cX5_air 73 = .ok (.aload_n 0, 1) := by decide +kernel
theorem dX5_air_74 : decode cX5_air 74 = .ok (.getfield 9, 3) := by decide +kernel
theorem dX5_air_77 : decode cX5_air 77 = .ok (.iload_n 3, 1) := by decide +kernel
theorem dX5_air_78 : decode cX5_air 78 = .ok (.bipush 9, 2) := by decide +kernel
theorem dX5_air_80 : decode cX5_air 80 = .ok (.aload_n 0, 1) := by decide +kernel
theorem dX5_air_81 : decode cX5_air 81 = .ok (.getfield 9, 3) := by decide +kernel
theorem dX5_air_84 : decode cX5_air 84 = .ok (.iload_n 3, 1) := by decide +kernel
theorem dX5_air_85 : decode cX5_air 85 = .ok (.iaload, 1) := by decide +kernel
theorem dX5_air_86 : decode cX5_air 86 = .ok (.aload_n 1, 1) := by decide +kernel
theorem dX5_air_87 : decode cX5_air 87 = .ok (.aload_n 0, 1) := by decide +kernel
theorem dX5_air_88 : decode cX5_air 88 = .ok (.iload_n 3, 1) := by decide +kernel
theorem dX5_air_89 : decode cX5_air 89 = .ok (.invokevirtual 75, 3) := by decide +kernel
theorem dX5_air_92 : decode cX5_air 92 = .ok (.iadd, 1) := by decide +kernel
theorem dX5_air_93 : decode cX5_air 93 = .ok (.invokestatic 58, 3) := by decide +kernel
theorem dX5_air_96 : decode cX5_air 96 = .ok (.iastore, 1) := by decide +kernel
theorem dX5_air_97 : decode cX5_air 97 = .ok (.iinc 3 1, 3) := by decide +kernel
theorem dX5_air_100 : decode cX5_air 100 = .ok (.goto (-96), 3) := by decide +kernel
theorem dX5_air_103 : decode cX5_air 103 = .ok (.iload_n 2, 1) := by decide +kernel
theorem dX5_air_104 : decode cX5_air 104 = .ok (.ireturn, 1) := by decide +kernel
theorem dX5_goAhead_0 : decode cX5_goAhead 0 = .ok (.aload_n 0, 1) := by decide +kernel
theorem dX5_goAhead_1 : decode cX5_goAhead 1 = .ok (.iload_n 2, 1) := by decide +kernel
theorem dX5_goAhead_2 : decode cX5_goAhead 2 = .ok (.putfield 43, 3) := by decide +kernel
theorem dX5_goAhead_5 : decode cX5_goAhead 5 = .ok (.aload_n 0, 1) := by decide +kernel
theorem dX5_goAhead_6 : decode cX5_goAhead 6 = .ok (.aload_n 1, 1) := by decide +kernel
theorem dX5_goAhead_7 : decode cX5_goAhead 7 = .ok (.invokevirtual 78, 3) := by decide +kernel
theorem dX5_goAhead_10 : decode cX5_goAhead 10 = .ok (.pop, 1) := by decide +kernel
theorem dX5_goAhead_11 : decode cX5_goAhead 11 = .ok (.aload_n 0, 1) := by decide +kernel
theorem dX5_goAhead_12 : decode cX5_goAhead 12 = .ok (.dup, 1) := by decide +kernel
theorem dX5_goAhead_13 : decode cX5_goAhead 13 = .ok (.getfield 40, 3) := by decide +kernel
theorem dX5_goAhead_16 : decode cX5_goAhead 16 = .ok (.iconst 1, 1) := by decide +kernel
theorem dX5_goAhead_17 : decode cX5_goAhead 17 = .ok (.iadd, 1) := by decide +kernel
theorem dX5_goAhead_18 : decode cX5_goAhead 18 = .ok (.putfield 40, 3) := by decide +kernel
theorem dX5_goAhead_21 : decode cX5_goAhead 21 = .ok (.return_, 1) := by decide +kernel
theorem dX5_nightsTillDry_0 : decode cX5_nightsTillDry 0 = .ok (.aload_n 0, 1) := by decide +kernel
theorem dX5_nightsTillDry_1 : decode cX5_nightsTillDry 1 = .ok (.getfield 18, 3) := by decide +kernel
theorem dX5_nightsTillDry_4 : decode cX5_nightsTillDry 4 = .ok (.iload_n 2, 1) := by decide +kernel
theorem dX5_nightsTillDry_5 : decode cX5_nightsTillDry 5 = .ok (.iaload, 1) := by decide +kernel
theorem dX5_nightsTillDry_6 : decode cX5_nightsTillDry 6 = .ok (.ifCond .ne 5, 3) := by decide +kernel
theorem dX5_nightsTillDry_9 : decode cX5_nightsTillDry 9 = .ok (.iconst 0, 1) := by decide +kernel
theorem dX5_nightsTillDry_10 : decode cX5_nightsTillDry 10 = .ok (.ireturn, 1) := by decide +kernel
theorem dX5_nightsTillDry_11 : decode cX5_nightsTillDry 11 = .ok (.aload_n 0, 1) := by decide +kernel
theorem dX5_nightsTillDry_12 : decode cX5_nightsTillDry 12 = .ok (.iload_n 2, 1) := by decide +kernel
theorem dX5_nightsTillDry_13 : decode cX5_nightsTillDry 13 = .ok (.invokevirtual 65, 3) := by decide +kernel
theorem dX5_nightsTillDry_16 : decode cX5_nightsTillDry 16 = .ok (.ifCond .ne 6, 3) := by decide +kernel
theorem dX5_nightsTillDry_19 : decode cX5_nightsTillDry 19 = .ok (.bipush 41, 2) := by decide +kernel
theorem dX5_nightsTillDry_21 : decode cX5_nightsTillDry 21 = .ok (.ireturn, 1) := by decide +kernel
theorem dX5_nightsTillDry_22 : decode cX5_nightsTillDry 22 = .ok (.aload_n 0, 1) := by decide +kernel
theorem dX5_nightsTillDry_23 : decode cX5_nightsTillDry 23 = .ok (.iload_n 3, 1) := by decide +kernel
theorem dX5_nightsTillDry_24 : decode cX5_nightsTillDry 24 = .ok (.putfield 43, 3) := by decide +kernel
theorem dX5_nightsTillDry_27 : decode cX5_nightsTillDry 27 = .ok (.iconst 1, 1) := by decide +kernel
theorem dX5_nightsTillDry_28 : decode cX5_nightsTillDry 28 = .ok (.istore 4, 2) := by decide +kernel
theorem dX5_nightsTillDry_30 : decode cX5_nightsTillDry 30 = .ok (.iload 4, 2) := by decide +kernel
theorem dX5_nightsTillDry_32 : decode cX5_nightsTillDry 32 = .ok (.bipush 40, 2) := by decide +kernel
theorem dX5_nightsTillDry_34 : decode cX5_nightsTillDry 34 = .ok (.if_icmp .gt 54, 3) := by decide +kernel
theorem dX5_nightsTillDry_37 : decode cX5_nightsTillDry 37 = .ok (.aload_n 0, 1) := by decide +kernel
theorem dX5_nightsTillDry_38 : decode cX5_nightsTillDry 38 = .ok (.getfield 18, 3) := by decide +kernel
theorem dX5_nightsTillDry_41 : decode cX5_nightsTillDry 41 = .ok (.iload_n 2, 1) := by decide +kernel
theorem dX5_nightsTillDry_42 : decode cX5_nightsTillDry 42 = .ok (.iconst 0, 1) := by decide +kernel
theorem dX5_nightsTillDry_43 : decode cX5_nightsTillDry 43 = .ok (.aload_n 0, 1) := by decide +kernel
theorem dX5_nightsTillDry_44 : decode cX5_nightsTillDry 44 = .ok (.getfield 18, 3) := by decide +kernel
theorem dX5_nightsTillDry_47 : decode cX5_nightsTillDry 47 = .ok (.iload_n 2, 1) := by decide +kernel
theorem dX5_nightsTillDry_48 : decode cX5_nightsTillDry 48 = .ok (.iaload, 1) := by decide +kernel
theorem dX5_nightsTillDry_49 : decode cX5_nightsTillDry 49 = .ok (.aload_n 1, 1) := by decide +kernel
theorem dX5_nightsTillDry_50 : decode cX5_nightsTillDry 50 = .ok (.aload_n 0, 1) := by decide +kernel
theorem dX5_nightsTillDry_51 : decode cX5_nightsTillDry 51 = .ok (.iload_n 2, 1) := by decide +kernel
theorem dX5_nightsTillDry_52 : decode cX5_nightsTillDry 52 = .ok (.invokevirtual 69, 3) := by decide +kernel
theorem dX5_nightsTillDry_55 : decode cX5_nightsTillDry 55 = .ok (.isub, 1) := by decide +kernel
theorem dX5_nightsTillDry_56 : decode cX5_nightsTillDry 56 = .ok (.invokestatic 52, 3) := by decide +kernel
theorem dX5_nightsTillDry_59 : decode cX5_nightsTillDry 59 = .ok (.iastore, 1) := by decide +kernel
theorem dX5_nightsTillDry_60 : decode cX5_nightsTillDry 60 = .ok (.aload_n 0, 1) := by decide +kernel
theorem dX5_nightsTillDry_61 : decode cX5_nightsTillDry 61 = .ok (.dup, 1) := by decide +kernel
theorem dX5_nightsTillDry_62 : decode cX5_nightsTillDry 62 = .ok (.getfield 40, 3) := by decide +kernel
theorem dX5_nightsTillDry_65 : decode cX5_nightsTillDry 65 = .ok (.iconst 1, 1) := by decide +kernel
theorem dX5_nightsTillDry_66 : decode cX5_nightsTillDry 66 = .ok (.iadd, 1) := by decide +kernel
theorem dX5_nightsTillDry_67 : decode cX5_nightsTillDry 67 = .ok (.putfield 40, 3) := by decide +kernel
theorem dX5_nightsTillDry_70 : decode cX5_nightsTillDry 70 = .ok (.aload_n 0, 1) := by decide +kernel
theorem dX5_nightsTillDry_71 : decode cX5_nightsTillDry 71 = .ok (.getfield 18, 3) := by decide +kernel
theorem dX5_nightsTillDry_74 : decode cX5_nightsTillDry 74 = .ok (.iload_n 2, 1) := by decide +kernel
theorem dX5_nightsTillDry_75 : decode cX5_nightsTillDry 75 = .ok (.iaload, 1) := by decide +kernel
theorem dX5_nightsTillDry_76 : decode cX5_nightsTillDry 76 = .ok (.ifCond .ne 6, 3) := by decide +kernel
theorem dX5_nightsTillDry_79 : decode cX5_nightsTillDry 79 = .ok (.iload 4, 2) := by decide +kernel
theorem dX5_nightsTillDry_81 : decode cX5_nightsTillDry 81 = .ok (.ireturn, 1) := by decide +kernel
theorem dX5_nightsTillDry_82 : decode cX5_nightsTillDry 82 = .ok (.iinc 4 1, 3) := by decide +kernel
theorem dX5_nightsTillDry_85 : decode cX5_nightsTillDry 85 = .ok (.goto (-55), 3) := by decide +kernel
theorem dX5_nightsTillDry_88 : decode cX5_nightsTillDry 88 = .ok (.bipush 41, 2) := by decide +kernel
theorem dX5_nightsTillDry_90 : decode cX5_nightsTillDry 90 = .ok (.ireturn, 1) := by decide +kernel
theorem dX6_init_0 : decode cX6_init 0 = .ok (.aload_n 0, 1) := by decide +kernel
theorem dX6_init_1 : decode cX6_init 1 = .ok (.invokespecial 3, 3) := by decide +kernel
theorem dX6_init_4 : decode cX6_init 4 = .ok (.aload_n 0, 1) := by decide +kernel
theorem dX6_init_5 : decode cX6_init 5 = .ok (.bipush 12, 2) := by decide +kernel
theorem dX6_init_7 : decode cX6_init 7 = .ok (.anewarray 9, 3) := by decide +kernel
theorem dX6_init_10 : decode cX6_init 10 = .ok (.putfield 11, 3) := by decide +kernel
theorem dX6_init_13 : decode cX6_init 13 = .ok (.iconst 0, 1) := by decide +kernel
theorem dX6_init_14 : decode cX6_init 14 = .ok (.istore_n 1, 1) := by decide +kernel
theorem dX6_init_15 : decode cX6_init 15 = .ok (.iload_n 1, 1) := by decide +kernel
theorem dX6_init_16 : decode cX6_init 16 = .ok (.bipush 12, 2) := by decide +kernel
theorem dX6_init_18 : decode cX6_init 18 = .ok (.if_icmp .ge 22, 3) := by decide +kernel
theorem dX6_init_21 : decode cX6_init 21 = .ok (.aload_n 0, 1) := by decide +kernel
theorem dX6_init_22 : decode cX6_init 22 = .ok (.getfield 11, 3) := by decide +kernel
theorem dX6_init_25 : decode cX6_init 25 = .ok (.iload_n 1, 1) := by decide +kernel
theorem dX6_init_26 : decode cX6_init 26 = .ok (.new 9, 3) := by decide +kernel
theorem dX6_init_29 : decode cX6_init 29 = .ok (.dup, 1) := by decide +kernel
theorem dX6_init_30 : decode cX6_init 30 = .ok (.invokespecial 17, 3) := by decide +kernel
theorem dX6_init_33 : decode cX6_init 33 = .ok (.aastore, 1) := by decide +kernel
theorem dX6_init_34 : decode cX6_init 34 = .ok (.iinc 1 1, 3) := by decide +kernel
theorem dX6_init_37 : decode cX6_init 37 = .ok (.goto (-22), 3) := by decide +kernel
theorem dX6_init_40 : decode cX6_init 40 = .ok (.return_, 1) := by decide +kernel
theorem dX6_keep_0 : decode cX6_keep 0 = .ok (.aload_n 0, 1) := by decide +kernel
theorem dX6_keep_1 : decode cX6_keep 1 = .ok (.getfield 11, 3) := by decide +kernel
theorem dX6_keep_4 : decode cX6_keep 4 = .ok (.aload_n 0, 1) := by decide +kernel
theorem dX6_keep_5 : decode cX6_keep 5 = .ok (.getfield 18, 3) := by decide +kernel
theorem dX6_keep_8 : decode cX6_keep 8 = .ok (.aaload, 1) := by decide +kernel
theorem dX6_keep_9 : decode cX6_keep 9 = .ok (.aload_n 1, 1) := by decide +kernel
theorem dX6_keep_10 : decode cX6_keep 10 = .ok (.invokevirtual 22, 3) := by decide +kernel
theorem dX6_keep_13 : decode cX6_keep 13 = .ok (.aload_n 0, 1) := by decide +kernel
theorem dX6_keep_14 : decode cX6_keep 14 = .ok (.aload_n 0, 1) := by decide +kernel
theorem dX6_keep_15 : decode cX6_keep 15 = .ok (.getfield 18, 3) := by decide +kernel
theorem dX6_keep_18 : decode cX6_keep 18 = .ok (.iconst 1, 1) := by decide +kernel
theorem dX6_keep_19 : decode cX6_keep 19 = .ok (.iadd, 1) := by decide +kernel
theorem dX6_keep_20 : decode cX6_keep 20 = .ok (.bipush 12, 2) := by decide +kernel
theorem dX6_keep_22 : decode cX6_keep 22 = .ok (.irem, 1) := by decide +kernel
theorem dX6_keep_23 : decode cX6_keep 23 = .ok (.putfield 18, 3) := by decide +kernel
theorem dX6_keep_26 : decode cX6_keep 26 = .ok (.aload_n 0, 1) := by decide +kernel
theorem dX6_keep_27 : decode cX6_keep 27 = .ok (.bipush 12, 2) := by decide +kernel
theorem dX6_keep_29 : decode cX6_keep 29 = .ok (.aload_n 0, 1) := by decide +kernel
theorem dX6_keep_30 : decode cX6_keep 30 = .ok (.getfield 26, 3) := by decide +kernel
theorem dX6_keep_33 : decode cX6_keep 33 = .ok (.iconst 1, 1) := by decide +kernel
theorem dX6_keep_34 : decode cX6_keep 34 = .ok (.iadd, 1) := by decide +kernel
theorem dX6_keep_35 : decode cX6_keep 35 = .ok (.invokestatic 29, 3) := by decide +kernel
theorem dX6_keep_38 : decode cX6_keep 38 = .ok (.putfield 26, 3) := by decide +kernel
theorem dX6_keep_41 : decode cX6_keep 41 = .ok (.return_, 1) := by decide +kernel
theorem dX6_giveBack_0 : decode cX6_giveBack 0 = .ok (.aload_n 0, 1) := by decide +kernel
theorem dX6_giveBack_1 : decode cX6_giveBack 1 = .ok (.getfield 26, 3) := by decide +kernel
theorem dX6_giveBack_4 : decode cX6_giveBack 4 = .ok (.ifCond .ne 5, 3) := by decide +kernel
theorem dX6_giveBack_7 : decode cX6_giveBack 7 = .ok (.iconst 0, 1) := by decide +kernel
theorem dX6_giveBack_8 : decode cX6_giveBack 8 = .ok (.ireturn, 1) := by decide +kernel
theorem dX6_giveBack_9 : decode cX6_giveBack 9 = .ok (.aload_n 0, 1) := by decide +kernel
theorem dX6_giveBack_10 : decode cX6_giveBack 10 = .ok (.dup, 1) := by decide +kernel
theorem dX6_giveBack_11 : decode cX6_giveBack 11 = .ok (.getfield 26, 3) := by decide +kernel
theorem dX6_giveBack_14 : decode cX6_giveBack 14 = .ok (.iconst 1, 1) := by decide +kernel
theorem dX6_giveBack_15 : decode cX6_giveBack 15 = .ok (.isub, 1) := by decide +kernel
theorem dX6_giveBack_16 : decode cX6_giveBack 16 = .ok (.putfield 26, 3) := by decide +kernel
theorem dX6_giveBack_19 : decode cX6_giveBack 19 = .ok (.aload_n 0, 1) := by decide +kernel
theorem dX6_giveBack_20 : decode cX6_giveBack 20 = .ok (.aload_n 0, 1) := by decide +kernel
theorem dX6_giveBack_21 : decode cX6_giveBack 21 = .ok (.getfield 18, 3) := by decide +kernel
theorem dX6_giveBack_24 : decode cX6_giveBack 24 = .ok (.bipush 12, 2) := by decide +kernel
theorem dX6_giveBack_26 : decode cX6_giveBack 26 = .ok (.iadd, 1) := by decide +kernel
theorem dX6_giveBack_27 : decode cX6_giveBack 27 = .ok (.iconst 1, 1) := by decide +kernel
theorem dX6_giveBack_28 : decode cX6_giveBack 28 = .ok (.isub, 1) := by decide +kernel
theorem dX6_giveBack_29 : decode cX6_giveBack 29 = .ok (.bipush 12, 2) := by decide +kernel
theorem dX6_giveBack_31 : decode cX6_giveBack 31 = .ok (.irem, 1) := by decide +kernel
theorem dX6_giveBack_32 : decode cX6_giveBack 32 = .ok (.putfield 18, 3) := by decide +kernel
theorem dX6_giveBack_35 : decode cX6_giveBack 35 = .ok (.aload_n 1, 1) := by decide +kernel
theorem dX6_giveBack_36 : decode cX6_giveBack 36 = .ok (.aload_n 0, 1) := by decide +kernel
theorem dX6_giveBack_37 : decode cX6_giveBack 37 = .ok (.getfield 11, 3) := by decide +kernel
theorem dX6_giveBack_40 : decode cX6_giveBack 40 = .ok (.aload_n 0, 1) := by decide +kernel
theorem dX6_giveBack_41 : decode cX6_giveBack 41 = .ok (.getfield 18, 3) := by decide +kernel
theorem dX6_giveBack_44 : decode cX6_giveBack 44 = .ok (.aaload, 1) := by decide +kernel
theorem dX6_giveBack_45 : decode cX6_giveBack 45 = .ok (.invokevirtual 22, 3) := by decide +kernel
theorem dX6_giveBack_48 : decode cX6_giveBack 48 = .ok (.iconst 1, 1) := by decide +kernel
theorem dX6_giveBack_49 : decode cX6_giveBack 49 = .ok (.ireturn, 1) := by decide +kernel
theorem dX6_forget_0 : decode cX6_forget 0 = .ok (.aload_n 0, 1) := by decide +kernel
theorem dX6_forget_1 : decode cX6_forget 1 = .ok (.iconst 0, 1) := by decide +kernel
theorem dX6_forget_2 : decode cX6_forget 2 = .ok (.putfield 26, 3) := by decide +kernel
theorem dX6_forget_5 : decode cX6_forget 5 = .ok (.return_, 1) := by decide +kernel
theorem dX7_init_0 : decode cX7_init 0 = .ok (.aload_n 0, 1) := by decide +kernel
theorem dX7_init_1 : decode cX7_init 1 = .ok (.invokespecial 3, 3) := by decide +kernel
theorem dX7_init_4 : decode cX7_init 4 = .ok (.aload_n 0, 1) := by decide +kernel
theorem dX7_init_5 : decode cX7_init 5 = .ok (.bipush 8, 2) := by decide +kernel
theorem dX7_init_7 : decode cX7_init 7 = .ok (.bipush 8, 2) := by decide +kernel
theorem dX7_init_9 : decode cX7_init 9 = .ok (.multianewarray 9 2, 4) := by decide +kernel
theorem dX7_init_13 : decode cX7_init 13 = .ok (.putfield 11, 3) := by decide +kernel
theorem dX7_init_16 : decode cX7_init 16 = .ok (.aload_n 0, 1) := by decide +kernel
theorem dX7_init_17 : decode cX7_init 17 = .ok (.sipush 256, 3) := by decide +kernel
theorem dX7_init_20 : decode cX7_init 20 = .ok (.newarray .int, 2) := by decide +kernel
theorem dX7_init_22 : decode cX7_init 22 = .ok (.putfield 16, 3) := by decide +kernel
theorem dX7_init_25 : decode cX7_init 25 = .ok (.return_, 1) := by decide +kernel
theorem dX7_tell_0 : decode cX7_tell 0 = .ok (.aload_n 0, 1) := by decide +kernel
theorem dX7_tell_1 : decode cX7_tell 1 = .ok (.getfield 11, 3) := by decide +kernel
theorem dX7_tell_4 : decode cX7_tell 4 = .ok (.iload_n 1, 1) := by decide +kernel
theorem dX7_tell_5 : decode cX7_tell 5 = .ok (.aaload, 1) := by decide +kernel
theorem dX7_tell_6 : decode cX7_tell 6 = .ok (.iload_n 2, 1) := by decide +kernel
theorem dX7_tell_7 : decode cX7_tell 7 = .ok (.iload_n 3, 1) := by decide +kernel
theorem dX7_tell_8 : decode cX7_tell 8 = .ok (.iastore, 1) := by decide +kernel
theorem dX7_tell_9 : decode cX7_tell 9 = .ok (.return_, 1) := by decide +kernel
theorem dX7_fill_0 : decode cX7_fill 0 = .ok (.aload_n 0, 1) := by decide +kernel
theorem dX7_fill_1 : decode cX7_fill 1 = .ok (.getfield 16, 3) := by decide +kernel
theorem dX7_fill_4 : decode cX7_fill 4 = .ok (.sipush 255, 3) := by decide +kernel
theorem dX7_fill_7 : decode cX7_fill 7 = .ok (.iconst 0, 1) := by decide +kernel
theorem dX7_fill_8 : decode cX7_fill 8 = .ok (.iastore, 1) := by decide +kernel
theorem dX7_fill_9 : decode cX7_fill 9 = .ok (.sipush 254, 3) := by decide +kernel
theorem dX7_fill_12 : decode cX7_fill 12 = .ok (.istore_n 1, 1) := by decide +kernel
theorem dX7_fill_13 : decode cX7_fill 13 = .ok (.iload_n 1, 1) := by decide +kernel
theorem dX7_fill_14 : decode cX7_fill 14 = .ok (.ifCond .lt 62, 3) := by decide +kernel
theorem dX7_fill_17 : decode cX7_fill 17 = .ok (.iload_n 1, 1) := by decide +kernel
theorem dX7_fill_18 : decode cX7_fill 18 = .ok (.invokestatic 20, 3) := by decide +kernel
theorem dX7_fill_21 : decode cX7_fill 21 = .ok (.istore_n 2, 1) := by decide +kernel
theorem dX7_fill_22 : decode cX7_fill 22 = .ok (.bipush 41, 2) := by decide +kernel
theorem dX7_fill_24 : decode cX7_fill 24 = .ok (.istore_n 3, 1) := by decide +kernel
theorem dX7_fill_25 : decode cX7_fill 25 = .ok (.iconst 0, 1) := by decide +kernel
theorem dX7_fill_26 : decode cX7_fill 26 = .ok (.istore 4, 2) := by decide +kernel
theorem dX7_fill_28 : decode cX7_fill 28 = .ok (.iload 4, 2) := by decide +kernel
theorem dX7_fill_30 : decode cX7_fill 30 = .ok (.bipush 8, 2) := by decide +kernel
theorem dX7_fill_32 : decode cX7_fill 32 = .ok (.if_icmp .ge 31, 3) := by decide +kernel
theorem dX7_fill_35 : decode cX7_fill 35 = .ok (.iload_n 1, 1) := by decide +kernel
theorem dX7_fill_36 : decode cX7_fill 36 = .ok (.iload 4, 2) := by decide +kernel
theorem dX7_fill_38 : decode cX7_fill 38 = .ok (.ishr, 1) := by decide +kernel
theorem dX7_fill_39 : decode cX7_fill 39 = .ok (.iconst 1, 1) := by decide +kernel
theorem dX7_fill_40 : decode cX7_fill 40 = .ok (.iand, 1) := by decide +kernel
theorem dX7_fill_41 : decode cX7_fill 41 = .ok (.ifCond .ne 16, 3) := by decide +kernel
theorem dX7_fill_44 : decode cX7_fill 44 = .ok (.iload_n 3, 1) := by decide +kernel
theorem dX7_fill_45 : decode cX7_fill 45 = .ok (.aload_n 0, 1) := by decide +kernel
theorem dX7_fill_46 : decode cX7_fill 46 = .ok (.iload_n 2, 1) := by decide +kernel
theorem dX7_fill_47 : decode cX7_fill 47 = .ok (.iload 4, 2) := by decide +kernel
theorem dX7_fill_49 : decode cX7_fill 49 = .ok (.iload_n 1, 1) := by decide +kernel
theorem dX7_fill_50 : decode cX7_fill 50 = .ok (.invokevirtual 26, 3) := by decide +kernel
theorem dX7_fill_53 : decode cX7_fill 53 = .ok (.invokestatic 30, 3) := by decide +kernel
theorem dX7_fill_56 : decode cX7_fill 56 = .ok (.istore_n 3, 1) := by decide +kernel
theorem dX7_fill_57 : decode cX7_fill 57 = .ok (.iinc 4 1, 3) := by decide +kernel
theorem dX7_fill_60 : decode cX7_fill 60 = .ok (.goto (-32), 3) := by decide +kernel
theorem dX7_fill_63 : decode cX7_fill 63 = .ok (.aload_n 0, 1) := by decide +kernel
theorem dX7_fill_64 : decode cX7_fill 64 = .ok (.getfield 16, 3) := by decide +kernel
theorem dX7_fill_67 : decode cX7_fill 67 = .ok (.iload_n 1, 1) := by decide +kernel
theorem dX7_fill_68 : decode cX7_fill 68 = .ok (.iload_n 3, 1) := by decide +kernel
theorem dX7_fill_69 : decode cX7_fill 69 = .ok (.iastore, 1) := by decide +kernel
theorem dX7_fill_70 : decode cX7_fill 70 = .ok (.iinc 1 (-1), 3) := by decide +kernel
theorem dX7_fill_73 : decode cX7_fill 73 = .ok (.goto (-60), 3) := by decide +kernel
theorem dX7_fill_76 : decode cX7_fill 76 = .ok (.return_, 1) := by decide +kernel
theorem dX7_nightsWith_0 : decode cX7_nightsWith 0 = .ok (.aload_n 0, 1) := by decide +kernel
theorem dX7_nightsWith_1 : decode cX7_nightsWith 1 = .ok (.getfield 11, 3) := by decide +kernel
theorem dX7_nightsWith_4 : decode cX7_nightsWith 4 = .ok (.iload_n 1, 1) := by decide +kernel
theorem dX7_nightsWith_5 : decode cX7_nightsWith 5 = .ok (.aaload, 1) := by decide +kernel
theorem dX7_nightsWith_6 : decode cX7_nightsWith 6 = .ok (.iload_n 2, 1) := by decide +kernel
theorem dX7_nightsWith_7 : decode cX7_nightsWith 7 = .ok (.iaload, 1) := by decide +kernel
theorem dX7_nightsWith_8 : decode cX7_nightsWith 8 = .ok (.aload_n 0, 1) := by decide +kernel
theorem dX7_nightsWith_9 : decode cX7_nightsWith 9 = .ok (.getfield 16, 3) := by decide +kernel
theorem dX7_nightsWith_12 : decode cX7_nightsWith 12 = .ok (.iload_n 3, 1) := by decide +kernel
theorem dX7_nightsWith_13 : decode cX7_nightsWith 13 = .ok (.iconst 1, 1) := by decide +kernel
theorem dX7_nightsWith_14 : decode cX7_nightsWith 14 = .ok (.iload_n 2, 1) := by decide +kernel
theorem dX7_nightsWith_15 : decode cX7_nightsWith 15 = .ok (.ishl, 1) := by decide +kernel
theorem dX7_nightsWith_16 : decode cX7_nightsWith 16 = .ok (.ior, 1) := by decide +kernel
theorem dX7_nightsWith_17 : decode cX7_nightsWith 17 = .ok (.iaload, 1) := by decide +kernel
theorem dX7_nightsWith_18 : decode cX7_nightsWith 18 = .ok (.invokestatic 36, 3) := by decide +kernel
theorem dX7_nightsWith_21 : decode cX7_nightsWith 21 = .ok (.ireturn, 1) := by decide +kernel
theorem dX7_leastNights_0 : decode cX7_leastNights 0 = .ok (.aload_n 0, 1) := by decide +kernel
theorem dX7_leastNights_1 : decode cX7_leastNights 1 = .ok (.getfield 16, 3) := by decide +kernel
theorem dX7_leastNights_4 : decode cX7_leastNights 4 = .ok (.iconst 0, 1) := by decide +kernel
theorem dX7_leastNights_5 : decode cX7_leastNights 5 = .ok (.iaload, 1) := by decide +kernel
theorem dX7_leastNights_6 : decode cX7_leastNights 6 = .ok (.bipush 40, 2) := by decide +kernel
theorem dX7_leastNights_8 : decode cX7_leastNights 8 = .ok (.if_icmp .le 7, 3) := by decide +kernel
theorem dX7_leastNights_11 : decode cX7_leastNights 11 = .ok (.iconst (-1), 1) := by decide +kernel
theorem dX7_leastNights_12 : decode cX7_leastNights 12 = .ok (.goto 9, 3) := by decide +kernel
theorem dX7_leastNights_15 : decode cX7_leastNights 15 = .ok (.aload_n 0, 1) := by decide +kernel
theorem dX7_leastNights_16 : decode cX7_leastNights 16 = .ok (.getfield 16, 3) := by decide +kernel
theorem dX7_leastNights_19 : decode cX7_leastNights 19 = .ok (.iconst 0, 1) := by decide +kernel
theorem dX7_leastNights_20 : decode cX7_leastNights 20 = .ok (.iaload, 1) := by decide +kernel
theorem dX7_leastNights_21 : decode cX7_leastNights 21 = .ok (.ireturn, 1) := by decide +kernel
theorem dX7_pegOfPart_0 : decode cX7_pegOfPart 0 = .ok (.aload_n 0, 1) := by decide +kernel
theorem dX7_pegOfPart_1 : decode cX7_pegOfPart 1 = .ok (.getfield 16, 3) := by decide +kernel
theorem dX7_pegOfPart_4 : decode cX7_pegOfPart 4 = .ok (.iconst 0, 1) := by decide +kernel
theorem dX7_pegOfPart_5 : decode cX7_pegOfPart 5 = .ok (.iaload, 1) := by decide +kernel
theorem dX7_pegOfPart_6 : decode cX7_pegOfPart 6 = .ok (.bipush 40, 2) := by decide +kernel
theorem dX7_pegOfPart_8 : decode cX7_pegOfPart 8 = .ok (.if_icmp .le 5, 3) := by decide +kernel
theorem dX7_pegOfPart_11 : decode cX7_pegOfPart 11 = .ok (.iconst (-1), 1) := by decide +kernel
theorem dX7_pegOfPart_12 : decode cX7_pegOfPart 12 = .ok (.ireturn, 1) := by decide +kernel
theorem dX7_pegOfPart_13 : decode cX7_pegOfPart 13 = .ok (.iconst 0, 1) := by decide +kernel
theorem dX7_pegOfPart_14 : decode cX7_pegOfPart 14 = .ok (.istore_n 2, 1) := by decide +kernel
theorem dX7_pegOfPart_15 : decode cX7_pegOfPart 15 = .ok (.iconst 0, 1) := by decide +kernel
theorem dX7_pegOfPart_16 : decode cX7_pegOfPart 16 = .ok (.istore_n 3, 1) := by decide +kernel
theorem dX7_pegOfPart_17 : decode cX7_pegOfPart 17 = .ok (.iconst 0, 1) := by decide +kernel
theorem dX7_pegOfPart_18 : decode cX7_pegOfPart 18 = .ok (.istore 4, 2) := by decide +kernel
theorem dX7_pegOfPart_20 : decode cX7_pegOfPart 20 = .ok (.iload 4, 2) := by decide +kernel
theorem dX7_pegOfPart_22 : decode cX7_pegOfPart 22 = .ok (.iload_n 1, 1) := by decide +kernel
theorem dX7_pegOfPart_23 : decode cX7_pegOfPart 23 = .ok (.if_icmp .gt 23, 3) := by decide +kernel
theorem dX7_pegOfPart_26 : decode cX7_pegOfPart 26 = .ok (.aload_n 0, 1) := by decide +kernel
theorem dX7_pegOfPart_27 : decode cX7_pegOfPart 27 = .ok (.iload 4, 2) := by decide +kernel
theorem dX7_pegOfPart_29 : decode cX7_pegOfPart 29 = .ok (.iload_n 2, 1) := by decide +kernel
theorem dX7_pegOfPart_30 : decode cX7_pegOfPart 30 = .ok (.invokevirtual 39, 3) := by decide +kernel
theorem dX7_pegOfPart_33 : decode cX7_pegOfPart 33 = .ok (.istore_n 3, 1) := by decide +kernel
theorem dX7_pegOfPart_34 : decode cX7_pegOfPart 34 = .ok (.iload_n 2, 1) := by decide +kernel
theorem dX7_pegOfPart_35 : decode cX7_pegOfPart 35 = .ok (.iconst 1, 1) := by decide +kernel
theorem dX7_pegOfPart_36 : decode cX7_pegOfPart 36 = .ok (.iload_n 3, 1) := by decide +kernel
theorem dX7_pegOfPart_37 : decode cX7_pegOfPart 37 = .ok (.ishl, 1) := by decide +kernel
theorem dX7_pegOfPart_38 : decode cX7_pegOfPart 38 = .ok (.ior, 1) := by decide +kernel
theorem dX7_pegOfPart_39 : decode cX7_pegOfPart 39 = .ok (.istore_n 2, 1) := by decide +kernel
theorem dX7_pegOfPart_40 : decode cX7_pegOfPart 40 = .ok (.iinc 4 1, 3) := by decide +kernel
theorem dX7_pegOfPart_43 : decode cX7_pegOfPart 43 = .ok (.goto (-23), 3) := by decide +kernel
theorem dX7_pegOfPart_46 : decode cX7_pegOfPart 46 = .ok (.iload_n 3, 1) := by decide +kernel
theorem dX7_pegOfPart_47 : decode cX7_pegOfPart 47 = .ok (.ireturn, 1) := by decide +kernel
theorem dX7_firstPeg_0 : decode cX7_firstPeg 0 = .ok (.iconst 0, 1) := by decide +kernel
theorem dX7_firstPeg_1 : decode cX7_firstPeg 1 = .ok (.istore_n 3, 1) := by decide +kernel
theorem dX7_firstPeg_2 : decode cX7_firstPeg 2 = .ok (.iload_n 3, 1) := by decide +kernel
theorem dX7_firstPeg_3 : decode cX7_firstPeg 3 = .ok (.bipush 8, 2) := by decide +kernel
theorem dX7_firstPeg_5 : decode cX7_firstPeg 5 = .ok (.if_icmp .ge 35, 3) := by decide +kernel
theorem dX7_firstPeg_8 : decode cX7_firstPeg 8 = .ok (.iload_n 2, 1) := by decide +kernel
theorem dX7_firstPeg_9 : decode cX7_firstPeg 9 = .ok (.iload_n 3, 1) := by decide +kernel
theorem dX7_firstPeg_10 : decode cX7_firstPeg 10 = .ok (.ishr, 1) := by decide +kernel
theorem dX7_firstPeg_11 : decode cX7_firstPeg 11 = .ok (.iconst 1, 1) := by decide +kernel
theorem dX7_firstPeg_12 : decode cX7_firstPeg 12 = .ok (.iand, 1) := by decide +kernel
theorem dX7_firstPeg_13 : decode cX7_firstPeg 13 = .ok (.ifCond .ne 21, 3) := by decide +kernel
theorem dX7_firstPeg_16 : decode cX7_firstPeg 16 = .ok (.aload_n 0, 1) := by decide +kernel
theorem dX7_firstPeg_17 : decode cX7_firstPeg 17 = .ok (.iload_n 1, 1) := by decide +kernel
theorem dX7_firstPeg_18 : decode cX7_firstPeg 18 = .ok (.iload_n 3, 1) := by decide +kernel
theorem dX7_firstPeg_19 : decode cX7_firstPeg 19 = .ok (.iload_n 2, 1) := by decide +kernel
theorem dX7_firstPeg_20 : decode cX7_firstPeg 20 = .ok (.invokevirtual 26, 3) := by decide +kernel
theorem dX7_firstPeg_23 : decode cX7_firstPeg 23 = .ok (.aload_n 0, 1) := by decide +kernel
theorem dX7_firstPeg_24 : decode cX7_firstPeg 24 = .ok (.getfield 16, 3) := by decide +kernel
theorem dX7_firstPeg_27 : decode cX7_firstPeg 27 = .ok (.iconst 0, 1) := by decide +kernel
theorem dX7_firstPeg_28 : decode cX7_firstPeg 28 = .ok (.iaload, 1) := by decide +kernel
theorem dX7_firstPeg_29 : decode cX7_firstPeg 29 = .ok (.if_icmp .gt 5, 3) := by decide +kernel
theorem dX7_firstPeg_32 : decode cX7_firstPeg 32 = .ok (.iload_n 3, 1) := by decide +kernel
theorem dX7_firstPeg_33 : decode cX7_firstPeg 33 = .ok (.ireturn, 1) := by decide +kernel
theorem dX7_firstPeg_34 : decode cX7_firstPeg 34 = .ok (.iinc 3 1, 3) := by decide +kernel
theorem dX7_firstPeg_37 : decode cX7_firstPeg 37 = .ok (.goto (-35), 3) := by decide +kernel
theorem dX7_firstPeg_40 : decode cX7_firstPeg 40 = .ok (.iconst 0, 1) := by decide +kernel
theorem dX7_firstPeg_41 : decode cX7_firstPeg 41 = .ok (.ireturn, 1) := by decide +kernel
theorem dX8_written_0 : decode cX8_written 0 = .ok (.iconst 0, 1) := by decide +kernel
theorem dX8_written_1 : decode cX8_written 1 = .ok (.istore_n 3, 1) := by decide +kernel
theorem dX8_written_2 : decode cX8_written 2 = .ok (.iload_n 3, 1) := by decide +kernel
theorem dX8_written_3 : decode cX8_written 3 = .ok (.getstatic 141, 3) := by decide +kernel
theorem dX8_written_6 : decode cX8_written 6 = .ok (.arraylength, 1) := by decide +kernel
theorem dX8_written_7 : decode cX8_written 7 = .ok (.if_icmp .ge 33, 3) := by decide +kernel
theorem dX8_written_10 : decode cX8_written 10 = .ok (.iload_n 2, 1) := by decide +kernel
theorem dX8_written_11 : decode cX8_written 11 = .ok (.ifCond .le 23, 3) := by decide +kernel
theorem dX8_written_14 : decode cX8_written 14 = .ok (.getstatic 141, 3) := by decide +kernel
theorem dX8_written_17 : decode cX8_written 17 = .ok (.iload_n 3, 1) := by decide +kernel
theorem dX8_written_18 : decode cX8_written 18 = .ok (.aaload, 1) := by decide +kernel
theorem dX8_written_19 : decode cX8_written 19 = .ok (.aload_n 0, 1) := by decide +kernel
theorem dX8_written_20 : decode cX8_written 20 = .ok (.iload_n 1, 1) := by decide +kernel
theorem dX8_written_21 : decode cX8_written 21 = .ok (.iload_n 2, 1) := by decide +kernel
theorem dX8_written_22 : decode cX8_written 22 = .ok (.invokevirtual 144, 3) := by decide +kernel
theorem dX8_written_25 : decode cX8_written 25 = .ok (.ifCond .eq 9, 3) := by decide +kernel
theorem dX8_written_28 : decode cX8_written 28 = .ok (.getstatic 141, 3) := by decide +kernel
theorem dX8_written_31 : decode cX8_written 31 = .ok (.iload_n 3, 1) := by decide +kernel
theorem dX8_written_32 : decode cX8_written 32 = .ok (.aaload, 1) := by decide +kernel
theorem dX8_written_33 : decode cX8_written 33 = .ok (.areturn, 1) := by decide +kernel
theorem dX8_written_34 : decode cX8_written 34 = .ok (.iinc 3 1, 3) := by decide +kernel
theorem dX8_written_37 : decode cX8_written 37 = .ok (.goto (-35), 3) := by decide +kernel
theorem dX8_written_40 : decode cX8_written 40 = .ok (.getstatic 12, 3) := by decide +kernel
theorem dX8_written_43 : decode cX8_written 43 = .ok (.areturn, 1) := by decide +kernel
theorem dX8_isAt_0 : decode cX8_isAt 0 = .ok (.iload_n 3, 1) := by decide +kernel
theorem dX8_isAt_1 : decode cX8_isAt 1 = .ok (.aload_n 0, 1) := by decide +kernel
theorem dX8_isAt_2 : decode cX8_isAt 2 = .ok (.getfield 133, 3) := by decide +kernel
theorem dX8_isAt_5 : decode cX8_isAt 5 = .ok (.invokevirtual 148, 3) := by decide +kernel
theorem dX8_isAt_8 : decode cX8_isAt 8 = .ok (.if_icmp .ne 11, 3) := by decide +kernel
theorem dX8_isAt_11 : decode cX8_isAt 11 = .ok (.iload_n 2, 1) := by decide +kernel
theorem dX8_isAt_12 : decode cX8_isAt 12 = .ok (.iload_n 3, 1) := by decide +kernel
theorem dX8_isAt_13 : decode cX8_isAt 13 = .ok (.iadd, 1) := by decide +kernel
theorem dX8_isAt_14 : decode cX8_isAt 14 = .ok (.aload_n 1, 1) := by decide +kernel
theorem dX8_isAt_15 : decode cX8_isAt 15 = .ok (.arraylength, 1) := by decide +kernel
theorem dX8_isAt_16 : decode cX8_isAt 16 = .ok (.if_icmp .le 5, 3) := by decide +kernel
theorem dX8_isAt_19 : decode cX8_isAt 19 = .ok (.iconst 0, 1) := by decide +kernel
theorem dX8_isAt_20 : decode cX8_isAt 20 = .ok (.ireturn, 1) := by decide +kernel
theorem dX8_isAt_21 : decode cX8_isAt 21 = .ok (.iconst 0, 1) := by decide +kernel
theorem dX8_isAt_22 : decode cX8_isAt 22 = .ok (.istore 4, 2) := by decide +kernel
theorem dX8_isAt_24 : decode cX8_isAt 24 = .ok (.iload 4, 2) := by decide +kernel
theorem dX8_isAt_26 : decode cX8_isAt 26 = .ok (.iload_n 3, 1) := by decide +kernel
theorem dX8_isAt_27 : decode cX8_isAt 27 = .ok (.if_icmp .ge 29, 3) := by decide +kernel
theorem dX8_isAt_30 : decode cX8_isAt 30 = .ok (.aload_n 1, 1) := by decide +kernel
theorem dX8_isAt_31 : decode cX8_isAt 31 = .ok (.iload_n 2, 1) := by decide +kernel
theorem dX8_isAt_32 : decode cX8_isAt 32 = .ok (.iload 4, 2) := by decide +kernel
theorem dX8_isAt_34 : decode cX8_isAt 34 = .ok (.iadd, 1) := by decide +kernel
theorem dX8_isAt_35 : decode cX8_isAt 35 = .ok (.iaload, 1) := by decide +kernel
theorem dX8_isAt_36 : decode cX8_isAt 36 = .ok (.aload_n 0, 1) := by decide +kernel
theorem dX8_isAt_37 : decode cX8_isAt 37 = .ok (.getfield 133, 3) := by decide +kernel
theorem dX8_isAt_40 : decode cX8_isAt 40 = .ok (.iload 4, 2) := by decide +kernel
theorem dX8_isAt_42 : decode cX8_isAt 42 = .ok (.invokevirtual 154, 3) := by decide +kernel
theorem dX8_isAt_45 : decode cX8_isAt 45 = .ok (.if_icmp .eq 5, 3) := by decide +kernel
theorem dX8_isAt_48 : decode cX8_isAt 48 = .ok (.iconst 0, 1) := by decide +kernel
theorem dX8_isAt_49 : decode cX8_isAt 49 = .ok (.ireturn, 1) := by decide +kernel
theorem dX8_isAt_50 : decode cX8_isAt 50 = .ok (.iinc 4 1, 3) := by decide +kernel
theorem dX8_isAt_53 : decode cX8_isAt 53 = .ok (.goto (-29), 3) := by decide +kernel
theorem dX8_isAt_56 : decode cX8_isAt 56 = .ok (.iconst 1, 1) := by decide +kernel
theorem dX8_isAt_57 : decode cX8_isAt 57 = .ok (.ireturn, 1) := by decide +kernel
theorem dX9_init_0 : decode cX9_init 0 = .ok (.aload_n 0, 1) := by decide +kernel
theorem dX9_init_1 : decode cX9_init 1 = .ok (.invokespecial 3, 3) := by decide +kernel
theorem dX9_init_4 : decode cX9_init 4 = .ok (.aload_n 0, 1) := by decide +kernel
theorem dX9_init_5 : decode cX9_init 5 = .ok (.bipush 8, 2) := by decide +kernel
theorem dX9_init_7 : decode cX9_init 7 = .ok (.bipush 7, 2) := by decide +kernel
theorem dX9_init_9 : decode cX9_init 9 = .ok (.multianewarray 9 2, 4) := by decide +kernel
theorem dX9_init_13 : decode cX9_init 13 = .ok (.putfield 11, 3) := by decide +kernel
theorem dX9_init_16 : decode cX9_init 16 = .ok (.aload_n 0, 1) := by decide +kernel
theorem dX9_init_17 : decode cX9_init 17 = .ok (.bipush 7, 2) := by decide +kernel
theorem dX9_init_19 : decode cX9_init 19 = .ok (.newarray .int, 2) := by decide +kernel
theorem dX9_init_21 : decode cX9_init 21 = .ok (.putfield 16, 3) := by decide +kernel
theorem dX9_init_24 : decode cX9_init 24 = .ok (.aload_n 0, 1) := by decide +kernel
theorem dX9_init_25 : decode cX9_init 25 = .ok (.bipush 9, 2) := by decide +kernel
theorem dX9_init_27 : decode cX9_init 27 = .ok (.sipush 161, 3) := by decide +kernel
theorem dX9_init_30 : decode cX9_init 30 = .ok (.multianewarray 9 2, 4) := by decide +kernel
theorem dX9_init_34 : decode cX9_init 34 = .ok (.putfield 20, 3) := by decide +kernel
theorem dX9_init_37 : decode cX9_init 37 = .ok (.return_, 1) := by decide +kernel
theorem dX9_begin_0 : decode cX9_begin 0 = .ok (.aload_n 0, 1) := by decide +kernel
theorem dX9_begin_1 : decode cX9_begin 1 = .ok (.aload_n 1, 1) := by decide +kernel
theorem dX9_begin_2 : decode cX9_begin 2 = .ok (.getfield 23, 3) := by decide +kernel
theorem dX9_begin_5 : decode cX9_begin 5 = .ok (.iconst 1, 1) := by decide +kernel
theorem dX9_begin_6 : decode cX9_begin 6 = .ok (.iadd, 1) := by decide +kernel
theorem dX9_begin_7 : decode cX9_begin 7 = .ok (.putfield 29, 3) := by decide +kernel
theorem dX9_begin_10 : decode cX9_begin 10 = .ok (.iconst 1, 1) := by decide +kernel
theorem dX9_begin_11 : decode cX9_begin 11 = .ok (.istore_n 2, 1) := by decide +kernel
theorem dX9_begin_12 : decode cX9_begin 12 = .ok (.iload_n 2, 1) := by decide +kernel
theorem dX9_begin_13 : decode cX9_begin 13 = .ok (.aload_n 0, 1) := by decide +kernel
theorem dX9_begin_14 : decode cX9_begin 14 = .ok (.getfield 29, 3) := by decide +kernel
theorem dX9_begin_17 : decode cX9_begin 17 = .ok (.if_icmp .ge 22, 3) := by decide +kernel
theorem dX9_begin_20 : decode cX9_begin 20 = .ok (.aload_n 0, 1) := by decide +kernel
theorem dX9_begin_21 : decode cX9_begin 21 = .ok (.getfield 16, 3) := by decide +kernel
theorem dX9_begin_24 : decode cX9_begin 24 = .ok (.iload_n 2, 1) := by decide +kernel
theorem dX9_begin_25 : decode cX9_begin 25 = .ok (.aload_n 1, 1) := by decide +kernel
theorem dX9_begin_26 : decode cX9_begin 26 = .ok (.iload_n 2, 1) := by decide +kernel
theorem dX9_begin_27 : decode cX9_begin 27 = .ok (.iconst 1, 1) := by decide +kernel
theorem dX9_begin_28 : decode cX9_begin 28 = .ok (.isub, 1) := by decide +kernel
theorem dX9_begin_29 : decode cX9_begin 29 = .ok (.invokevirtual 32, 3) := by decide +kernel
theorem dX9_begin_32 : decode cX9_begin 32 = .ok (.iastore, 1) := by decide +kernel
theorem dX9_begin_33 : decode cX9_begin 33 = .ok (.iinc 2 1, 3) := by decide +kernel
theorem dX9_begin_36 : decode cX9_begin 36 = .ok (.goto (-24), 3) := by decide +kernel
theorem dX9_begin_39 : decode cX9_begin 39 = .ok (.return_, 1) := by decide +kernel
theorem dX9_tell_0 : decode cX9_tell 0 = .ok (.aload_n 0, 1) := by decide +kernel
theorem dX9_tell_1 : decode cX9_tell 1 = .ok (.getfield 11, 3) := by decide +kernel
theorem dX9_tell_4 : decode cX9_tell 4 = .ok (.iload_n 1, 1) := by decide +kernel
theorem dX9_tell_5 : decode cX9_tell 5 = .ok (.aaload, 1) := by decide +kernel
theorem dX9_tell_6 : decode cX9_tell 6 = .ok (.iload_n 2, 1) := by decide +kernel
theorem dX9_tell_7 : decode cX9_tell 7 = .ok (.iconst 1, 1) := by decide +kernel
theorem dX9_tell_8 : decode cX9_tell 8 = .ok (.iadd, 1) := by decide +kernel
theorem dX9_tell_9 : decode cX9_tell 9 = .ok (.iload_n 3, 1) := by decide +kernel
theorem dX9_tell_10 : decode cX9_tell 10 = .ok (.iastore, 1) := by decide +kernel
theorem dX9_tell_11 : decode cX9_tell 11 = .ok (.return_, 1) := by decide +kernel
theorem dX9_fill_0 : decode cX9_fill 0 = .ok (.iconst 0, 1) := by decide +kernel
theorem dX9_fill_1 : decode cX9_fill 1 = .ok (.istore_n 2, 1) := by decide +kernel
theorem dX9_fill_2 : decode cX9_fill 2 = .ok (.iload_n 2, 1) := by decide +kernel
theorem dX9_fill_3 : decode cX9_fill 3 = .ok (.iload_n 1, 1) := by decide +kernel
theorem dX9_fill_4 : decode cX9_fill 4 = .ok (.if_icmp .gt 29, 3) := by decide +kernel
theorem dX9_fill_7 : decode cX9_fill 7 = .ok (.aload_n 0, 1) := by decide +kernel
theorem dX9_fill_8 : decode cX9_fill 8 = .ok (.getfield 20, 3) := by decide +kernel
theorem dX9_fill_11 : decode cX9_fill 11 = .ok (.bipush 8, 2) := by decide +kernel
theorem dX9_fill_13 : decode cX9_fill 13 = .ok (.aaload, 1) := by decide +kernel
theorem dX9_fill_14 : decode cX9_fill 14 = .ok (.iload_n 2, 1) := by decide +kernel
theorem dX9_fill_15 : decode cX9_fill 15 = .ok (.iload_n 2, 1) := by decide +kernel
theorem dX9_fill_16 : decode cX9_fill 16 = .ok (.ifCond .ne 7, 3) := by decide +kernel
theorem dX9_fill_19 : decode cX9_fill 19 = .ok (.iconst 0, 1) := by decide +kernel
theorem dX9_fill_20 : decode cX9_fill 20 = .ok (.goto 6, 3) := by decide +kernel
theorem dX9_fill_23 : decode cX9_fill 23 = .ok (.sipush 1000, 3) := by decide +kernel
theorem dX9_fill_26 : decode cX9_fill 26 = .ok (.iastore, 1) := by decide +kernel
theorem dX9_fill_27 : decode cX9_fill 27 = .ok (.iinc 2 1, 3) := by decide +kernel
theorem dX9_fill_30 : decode cX9_fill 30 = .ok (.goto (-28), 3) := by decide +kernel
theorem dX9_fill_33 : decode cX9_fill 33 = .ok (.bipush 7, 2) := by decide +kernel
theorem dX9_fill_35 : decode cX9_fill 35 = .ok (.istore_n 2, 1) := by decide +kernel
theorem dX9_fill_36 : decode cX9_fill 36 = .ok (.iload_n 2, 1) := by decide +kernel
theorem dX9_fill_37 : decode cX9_fill 37 = .ok (.ifCond .lt 70, 3) := by decide +kernel
theorem dX9_fill_40 : decode cX9_fill 40 = .ok (.iconst 0, 1) := by decide +kernel
theorem dX9_fill_41 : decode cX9_fill 41 = .ok (.istore_n 3, 1) := by decide +kernel
theorem dX9_fill_42 : decode cX9_fill 42 = .ok (.iload_n 3, 1) := by decide +kernel
theorem dX9_fill_43 : decode cX9_fill 43 = .ok (.iload_n 1, 1) := by decide +kernel
theorem dX9_fill_44 : decode cX9_fill 44 = .ok (.if_icmp .gt 57, 3) := by decide +kernel
theorem dX9_fill_47 : decode cX9_fill 47 = .ok (.sipush 1000, 3) := by decide +kernel
theorem dX9_fill_50 : decode cX9_fill 50 = .ok (.istore 4, 2) := by decide +kernel
theorem dX9_fill_52 : decode cX9_fill 52 = .ok (.iconst 0, 1) := by decide +kernel
theorem dX9_fill_53 : decode cX9_fill 53 = .ok (.istore 5, 2) := by decide +kernel
theorem dX9_fill_55 : decode cX9_fill 55 = .ok (.iload 5, 2) := by decide +kernel
theorem dX9_fill_57 : decode cX9_fill 57 = .ok (.aload_n 0, 1) := by decide +kernel
theorem dX9_fill_58 : decode cX9_fill 58 = .ok (.getfield 29, 3) := by decide +kernel
theorem dX9_fill_61 : decode cX9_fill 61 = .ok (.if_icmp .ge 24, 3) := by decide +kernel
theorem dX9_fill_64 : decode cX9_fill 64 = .ok (.iload 4, 2) := by decide +kernel
theorem dX9_fill_66 : decode cX9_fill 66 = .ok (.aload_n 0, 1) := by decide +kernel
theorem dX9_fill_67 : decode cX9_fill 67 = .ok (.iload_n 2, 1) := by decide +kernel
theorem dX9_fill_68 : decode cX9_fill 68 = .ok (.iload 5, 2) := by decide +kernel
theorem dX9_fill_70 : decode cX9_fill 70 = .ok (.iload_n 3, 1) := by decide +kernel
theorem dX9_fill_71 : decode cX9_fill 71 = .ok (.invokevirtual 36, 3) := by decide +kernel
theorem dX9_fill_74 : decode cX9_fill 74 = .ok (.invokestatic 40, 3) := by decide +kernel
theorem dX9_fill_77 : decode cX9_fill 77 = .ok (.istore 4, 2) := by decide +kernel
theorem dX9_fill_79 : decode cX9_fill 79 = .ok (.iinc 5 1, 3) := by decide +kernel
theorem dX9_fill_82 : decode cX9_fill 82 = .ok (.goto (-27), 3) := by decide +kernel
theorem dX9_fill_85 : decode cX9_fill 85 = .ok (.aload_n 0, 1) := by decide +kernel
theorem dX9_fill_86 : decode cX9_fill 86 = .ok (.getfield 20, 3) := by decide +kernel
theorem dX9_fill_89 : decode cX9_fill 89 = .ok (.iload_n 2, 1) := by decide +kernel
theorem dX9_fill_90 : decode cX9_fill 90 = .ok (.aaload, 1) := by decide +kernel
theorem dX9_fill_91 : decode cX9_fill 91 = .ok (.iload_n 3, 1) := by decide +kernel
theorem dX9_fill_92 : decode cX9_fill 92 = .ok (.iload 4, 2) := by decide +kernel
theorem dX9_fill_94 : decode cX9_fill 94 = .ok (.iastore, 1) := by decide +kernel
theorem dX9_fill_95 : decode cX9_fill 95 = .ok (.iinc 3 1, 3) := by decide +kernel
theorem dX9_fill_98 : decode cX9_fill 98 = .ok (.goto (-56), 3) := by decide +kernel
theorem dX9_fill_101 : decode cX9_fill 101 = .ok (.iinc 2 (-1), 3) := by decide +kernel
theorem dX9_fill_104 : decode cX9_fill 104 = .ok (.goto (-68), 3) := by decide +kernel
theorem dX9_fill_107 : decode cX9_fill 107 = .ok (.return_, 1) := by decide +kernel
theorem dX9_waterWith_0 : decode cX9_waterWith 0 = .ok (.aload_n 0, 1) := by decide +kernel
theorem dX9_waterWith_1 : decode cX9_waterWith 1 = .ok (.getfield 16, 3) := by decide +kernel
theorem dX9_waterWith_4 : decode cX9_waterWith 4 = .ok (.iload_n 2, 1) := by decide +kernel
theorem dX9_waterWith_5 : decode cX9_waterWith 5 = .ok (.iaload, 1) := by decide +kernel
theorem dX9_waterWith_6 : decode cX9_waterWith 6 = .ok (.aload_n 0, 1) := by decide +kernel
theorem dX9_waterWith_7 : decode cX9_waterWith 7 = .ok (.getfield 20, 3) := by decide +kernel
theorem dX9_waterWith_10 : decode cX9_waterWith 10 = .ok (.iload_n 1, 1) := by decide +kernel
theorem dX9_waterWith_11 : decode cX9_waterWith 11 = .ok (.iconst 1, 1) := by decide +kernel
theorem dX9_waterWith_12 : decode cX9_waterWith 12 = .ok (.iadd, 1) := by decide +kernel
theorem dX9_waterWith_13 : decode cX9_waterWith 13 = .ok (.aaload, 1) := by decide +kernel
theorem dX9_waterWith_14 : decode cX9_waterWith 14 = .ok (.iconst 0, 1) := by decide +kernel
theorem dX9_waterWith_15 : decode cX9_waterWith 15 = .ok (.iload_n 3, 1) := by decide +kernel
theorem dX9_waterWith_16 : decode cX9_waterWith 16 = .ok (.aload_n 0, 1) := by decide +kernel
theorem dX9_waterWith_17 : decode cX9_waterWith 17 = .ok (.getfield 11, 3) := by decide +kernel
theorem dX9_waterWith_20 : decode cX9_waterWith 20 = .ok (.iload_n 1, 1) := by decide +kernel
theorem dX9_waterWith_21 : decode cX9_waterWith 21 = .ok (.aaload, 1) := by decide +kernel
theorem dX9_waterWith_22 : decode cX9_waterWith 22 = .ok (.iload_n 2, 1) := by decide +kernel
theorem dX9_waterWith_23 : decode cX9_waterWith 23 = .ok (.iaload, 1) := by decide +kernel
theorem dX9_waterWith_24 : decode cX9_waterWith 24 = .ok (.isub, 1) := by decide +kernel
theorem dX9_waterWith_25 : decode cX9_waterWith 25 = .ok (.invokestatic 46, 3) := by decide +kernel
theorem dX9_waterWith_28 : decode cX9_waterWith 28 = .ok (.iaload, 1) := by decide +kernel
theorem dX9_waterWith_29 : decode cX9_waterWith 29 = .ok (.iadd, 1) := by decide +kernel
theorem dX9_waterWith_30 : decode cX9_waterWith 30 = .ok (.ireturn, 1) := by decide +kernel
theorem dX9_leastWater_0 : decode cX9_leastWater 0 = .ok (.aload_n 0, 1) := by decide +kernel
theorem dX9_leastWater_1 : decode cX9_leastWater 1 = .ok (.getfield 20, 3) := by decide +kernel
theorem dX9_leastWater_4 : decode cX9_leastWater 4 = .ok (.iconst 0, 1) := by decide +kernel
theorem dX9_leastWater_5 : decode cX9_leastWater 5 = .ok (.aaload, 1) := by decide +kernel
theorem dX9_leastWater_6 : decode cX9_leastWater 6 = .ok (.iload_n 1, 1) := by decide +kernel
theorem dX9_leastWater_7 : decode cX9_leastWater 7 = .ok (.iaload, 1) := by decide +kernel
theorem dX9_leastWater_8 : decode cX9_leastWater 8 = .ok (.sipush 1000, 3) := by decide +kernel
theorem dX9_leastWater_11 : decode cX9_leastWater 11 = .ok (.if_icmp .lt 7, 3) := by decide +kernel
theorem dX9_leastWater_14 : decode cX9_leastWater 14 = .ok (.iconst (-1), 1) := by decide +kernel
theorem dX9_leastWater_15 : decode cX9_leastWater 15 = .ok (.goto 11, 3) := by decide +kernel
theorem dX9_leastWater_18 : decode cX9_leastWater 18 = .ok (.aload_n 0, 1) := by decide +kernel
theorem dX9_leastWater_19 : decode cX9_leastWater 19 = .ok (.getfield 20, 3) := by decide +kernel
theorem dX9_leastWater_22 : decode cX9_leastWater 22 = .ok (.iconst 0, 1) := by decide +kernel
theorem dX9_leastWater_23 : decode cX9_leastWater 23 = .ok (.aaload, 1) := by decide +kernel
theorem dX9_leastWater_24 : decode cX9_leastWater 24 = .ok (.iload_n 1, 1) := by decide +kernel
theorem dX9_leastWater_25 : decode cX9_leastWater 25 = .ok (.iaload, 1) := by decide +kernel
theorem dX9_leastWater_26 : decode cX9_leastWater 26 = .ok (.ireturn, 1) := by decide +kernel
theorem dX9_soapOf_0 : decode cX9_soapOf 0 = .ok (.aload_n 0, 1) := by decide +kernel
theorem dX9_soapOf_1 : decode cX9_soapOf 1 = .ok (.getfield 20, 3) := by decide +kernel
theorem dX9_soapOf_4 : decode cX9_soapOf 4 = .ok (.iconst 0, 1) := by decide +kernel
theorem dX9_soapOf_5 : decode cX9_soapOf 5 = .ok (.aaload, 1) := by decide +kernel
theorem dX9_soapOf_6 : decode cX9_soapOf 6 = .ok (.iload_n 2, 1) := by decide +kernel
theorem dX9_soapOf_7 : decode cX9_soapOf 7 = .ok (.iaload, 1) := by decide +kernel
theorem dX9_soapOf_8 : decode cX9_soapOf 8 = .ok (.sipush 1000, 3) := by decide +kernel
theorem dX9_soapOf_11 : decode cX9_soapOf 11 = .ok (.if_icmp .lt 5, 3) := by decide +kernel
theorem dX9_soapOf_14 : decode cX9_soapOf 14 = .ok (.iconst (-1), 1) := by decide +kernel
theorem dX9_soapOf_15 : decode cX9_soapOf 15 = .ok (.ireturn, 1) := by decide +kernel
theorem dX9_soapOf_16 : decode cX9_soapOf 16 = .ok (.iload_n 2, 1) := by decide +kernel
theorem dX9_soapOf_17 : decode cX9_soapOf 17 = .ok (.istore_n 3, 1) := by decide +kernel
theorem dX9_soapOf_18 : decode cX9_soapOf 18 = .ok (.iconst 0, 1) := by decide +kernel
theorem dX9_soapOf_19 : decode cX9_soapOf 19 = .ok (.istore 4, 2) := by decide +kernel
theorem dX9_soapOf_21 : decode cX9_soapOf 21 = .ok (.iconst 0, 1) := by decide +kernel
theorem dX9_soapOf_22 : decode cX9_soapOf 22 = .ok (.istore 5, 2) := by decide +kernel
theorem dX9_soapOf_24 : decode cX9_soapOf 24 = .ok (.iload 5, 2) := by decide +kernel
theorem dX9_soapOf_26 : decode cX9_soapOf 26 = .ok (.iload_n 1, 1) := by decide +kernel
theorem dX9_soapOf_27 : decode cX9_soapOf 27 = .ok (.if_icmp .gt 35, 3) := by decide +kernel
theorem dX9_soapOf_30 : decode cX9_soapOf 30 = .ok (.aload_n 0, 1) := by decide +kernel
theorem dX9_soapOf_31 : decode cX9_soapOf 31 = .ok (.iload 5, 2) := by decide +kernel
theorem dX9_soapOf_33 : decode cX9_soapOf 33 = .ok (.iload_n 3, 1) := by decide +kernel
theorem dX9_soapOf_34 : decode cX9_soapOf 34 = .ok (.invokevirtual 49, 3) := by decide +kernel
theorem dX9_soapOf_37 : decode cX9_soapOf 37 = .ok (.istore 4, 2) := by decide +kernel
theorem dX9_soapOf_39 : decode cX9_soapOf 39 = .ok (.iconst 0, 1) := by decide +kernel
theorem dX9_soapOf_40 : decode cX9_soapOf 40 = .ok (.iload_n 3, 1) := by decide +kernel
theorem dX9_soapOf_41 : decode cX9_soapOf 41 = .ok (.aload_n 0, 1) := by decide +kernel
theorem dX9_soapOf_42 : decode cX9_soapOf 42 = .ok (.getfield 11, 3) := by decide +kernel
theorem dX9_soapOf_45 : decode cX9_soapOf 45 = .ok (.iload 5, 2) := by decide +kernel
theorem dX9_soapOf_47 : decode cX9_soapOf 47 = .ok (.aaload, 1) := by decide +kernel
theorem dX9_soapOf_48 : decode cX9_soapOf 48 = .ok (.iload 4, 2) := by decide +kernel
theorem dX9_soapOf_50 : decode cX9_soapOf 50 = .ok (.iaload, 1) := by decide +kernel
theorem dX9_soapOf_51 : decode cX9_soapOf 51 = .ok (.isub, 1) := by decide +kernel
theorem dX9_soapOf_52 : decode cX9_soapOf 52 = .ok (.invokestatic 46, 3) := by decide +kernel
theorem dX9_soapOf_55 : decode cX9_soapOf 55 = .ok (.istore_n 3, 1) := by decide +kernel
theorem dX9_soapOf_56 : decode cX9_soapOf 56 = .ok (.iinc 5 1, 3) := by decide +kernel
theorem dX9_soapOf_59 : decode cX9_soapOf 59 = .ok (.goto (-35), 3) := by decide +kernel
theorem dX9_soapOf_62 : decode cX9_soapOf 62 = .ok (.iload 4, 2) := by decide +kernel
theorem dX9_soapOf_64 : decode cX9_soapOf 64 = .ok (.iconst 1, 1) := by decide +kernel
theorem dX9_soapOf_65 : decode cX9_soapOf 65 = .ok (.isub, 1) := by decide +kernel
theorem dX9_soapOf_66 : decode cX9_soapOf 66 = .ok (.ireturn, 1) := by decide +kernel
theorem dX9_firstChoice_0 : decode cX9_firstChoice 0 = .ok (.iconst 0, 1) := by decide +kernel
theorem dX9_firstChoice_1 : decode cX9_firstChoice 1 = .ok (.istore_n 3, 1) := by decide +kernel
theorem dX9_firstChoice_2 : decode cX9_firstChoice 2 = .ok (.iload_n 3, 1) := by decide +kernel
theorem dX9_firstChoice_3 : decode cX9_firstChoice 3 = .ok (.aload_n 0, 1) := by decide +kernel
theorem dX9_firstChoice_4 : decode cX9_firstChoice 4 = .ok (.getfield 29, 3) := by decide +kernel
theorem dX9_firstChoice_7 : decode cX9_firstChoice 7 = .ok (.if_icmp .ge 29, 3) := by decide +kernel
theorem dX9_firstChoice_10 : decode cX9_firstChoice 10 = .ok (.aload_n 0, 1) := by decide +kernel
theorem dX9_firstChoice_11 : decode cX9_firstChoice 11 = .ok (.iload_n 1, 1) := by decide +kernel
theorem dX9_firstChoice_12 : decode cX9_firstChoice 12 = .ok (.iload_n 3, 1) := by decide +kernel
theorem dX9_firstChoice_13 : decode cX9_firstChoice 13 = .ok (.iload_n 2, 1) := by decide +kernel
theorem dX9_firstChoice_14 : decode cX9_firstChoice 14 = .ok (.invokevirtual 36, 3) := by decide +kernel
theorem dX9_firstChoice_17 : decode cX9_firstChoice 17 = .ok (.aload_n 0, 1) := by decide +kernel
theorem dX9_firstChoice_18 : decode cX9_firstChoice 18 = .ok (.getfield 20, 3) := by decide +kernel
theorem dX9_firstChoice_21 : decode cX9_firstChoice 21 = .ok (.iload_n 1, 1) := by decide +kernel
theorem dX9_firstChoice_22 : decode cX9_firstChoice 22 = .ok (.aaload, 1) := by decide +kernel
theorem dX9_firstChoice_23 : decode cX9_firstChoice 23 = .ok (.iload_n 2, 1) := by decide +kernel
theorem dX9_firstChoice_24 : decode cX9_firstChoice 24 = .ok (.iaload, 1) := by decide +kernel
theorem dX9_firstChoice_25 : decode cX9_firstChoice 25 = .ok (.if_icmp .ne 5, 3) := by decide +kernel
theorem dX9_firstChoice_28 : decode cX9_firstChoice 28 = .ok (.iload_n 3, 1) := by decide +kernel
theorem dX9_firstChoice_29 : decode cX9_firstChoice 29 = .ok (.ireturn, 1) := by decide +kernel
theorem dX9_firstChoice_30 : decode cX9_firstChoice 30 = .ok (.iinc 3 1, 3) := by decide +kernel
theorem dX9_firstChoice_33 : decode cX9_firstChoice 33 = .ok (.goto (-31), 3) := by decide +kernel
theorem dX9_firstChoice_36 : decode cX9_firstChoice 36 = .ok (.iconst 0, 1) := by decide +kernel
theorem dX9_firstChoice_37 : decode cX9_firstChoice 37 = .ok (.ireturn, 1) := by decide +kernel
theorem dX10_init_0 : decode cX10_init 0 = .ok (.aload_n 0, 1) := by decide +kernel
theorem dX10_init_1 : decode cX10_init 1 = .ok (.invokespecial 3, 3) := by decide +kernel
theorem dX10_init_4 : decode cX10_init 4 = .ok (.aload_n 0, 1) := by decide +kernel
theorem dX10_init_5 : decode cX10_init 5 = .ok (.sipush 400, 3) := by decide +kernel
theorem dX10_init_8 : decode cX10_init 8 = .ok (.newarray .int, 2) := by decide +kernel
theorem dX10_init_10 : decode cX10_init 10 = .ok (.putfield 9, 3) := by decide +kernel
theorem dX10_init_13 : decode cX10_init 13 = .ok (.aload_n 0, 1) := by decide +kernel
theorem dX10_init_14 : decode cX10_init 14 = .ok (.sipush 401, 3) := by decide +kernel
theorem dX10_init_17 : decode cX10_init 17 = .ok (.anewarray 15, 3) := by decide +kernel
theorem dX10_init_20 : decode cX10_init 20 = .ok (.putfield 17, 3) := by decide +kernel
theorem dX10_init_23 : decode cX10_init 23 = .ok (.aload_n 0, 1) := by decide +kernel
theorem dX10_init_24 : decode cX10_init 24 = .ok (.sipush 401, 3) := by decide +kernel
theorem dX10_init_27 : decode cX10_init 27 = .ok (.newarray .int, 2) := by decide +kernel
theorem dX10_init_29 : decode cX10_init 29 = .ok (.putfield 21, 3) := by decide +kernel
theorem dX10_init_32 : decode cX10_init 32 = .ok (.aload_n 0, 1) := by decide +kernel
theorem dX10_init_33 : decode cX10_init 33 = .ok (.sipush 401, 3) := by decide +kernel
theorem dX10_init_36 : decode cX10_init 36 = .ok (.newarray .int, 2) := by decide +kernel
theorem dX10_init_38 : decode cX10_init 38 = .ok (.putfield 24, 3) := by decide +kernel
theorem dX10_init_41 : decode cX10_init 41 = .ok (.aload_n 0, 1) := by decide +kernel
theorem dX10_init_42 : decode cX10_init 42 = .ok (.sipush 401, 3) := by decide +kernel
theorem dX10_init_45 : decode cX10_init 45 = .ok (.newarray .int, 2) := by decide +kernel
theorem dX10_init_47 : decode cX10_init 47 = .ok (.putfield 27, 3) := by decide +kernel
theorem dX10_init_50 : decode cX10_init 50 = .ok (.aload_n 0, 1) := by decide +kernel
theorem dX10_init_51 : decode cX10_init 51 = .ok (.iconst (-1), 1) := by decide +kernel
theorem dX10_init_52 : decode cX10_init 52 = .ok (.putfield 30, 3) := by decide +kernel
theorem dX10_init_55 : decode cX10_init 55 = .ok (.iconst 0, 1) := by decide +kernel
theorem dX10_init_56 : decode cX10_init 56 = .ok (.istore_n 1, 1) := by decide +kernel
theorem dX10_init_57 : decode cX10_init 57 = .ok (.iload_n 1, 1) := by decide +kernel
theorem dX10_init_58 : decode cX10_init 58 = .ok (.sipush 400, 3) := by decide +kernel
theorem dX10_init_61 : decode cX10_init 61 = .ok (.if_icmp .gt 18, 3) := by decide +kernel
theorem dX10_init_64 : decode cX10_init 64 = .ok (.aload_n 0, 1) := by decide +kernel
theorem dX10_init_65 : decode cX10_init 65 = .ok (.getfield 17, 3) := by decide +kernel
theorem dX10_init_68 : decode cX10_init 68 = .ok (.iload_n 1, 1) := by decide +kernel
theorem dX10_init_69 : decode cX10_init 69 = .ok (.getstatic 34, 3) := by decide +kernel
theorem dX10_init_72 : decode cX10_init 72 = .ok (.aastore, 1) := by decide +kernel
theorem dX10_init_73 : decode cX10_init 73 = .ok (.iinc 1 1, 3) := by decide +kernel
theorem dX10_init_76 : decode cX10_init 76 = .ok (.goto (-19), 3) := by decide +kernel
theorem dX10_init_79 : decode cX10_init 79 = .ok (.return_, 1) := by decide +kernel
theorem dX10_cut_0 : decode cX10_cut 0 = .ok (.iconst 0, 1) := by decide +kernel
theorem dX10_cut_1 : decode cX10_cut 1 = .ok (.iload_n 2, 1) := by decide +kernel
theorem dX10_cut_2 : decode cX10_cut 2 = .ok (.sipush 400, 3) := by decide +kernel
theorem dX10_cut_5 : decode cX10_cut 5 = .ok (.invokestatic 38, 3) := by decide +kernel
theorem dX10_cut_8 : decode cX10_cut 8 = .ok (.invokestatic 44, 3) := by decide +kernel
theorem dX10_cut_11 : decode cX10_cut 11 = .ok (.istore_n 3, 1) := by decide +kernel
theorem dX10_cut_12 : decode cX10_cut 12 = .ok (.aload_n 1, 1) := by decide +kernel
theorem dX10_cut_13 : decode cX10_cut 13 = .ok (.iconst 0, 1) := by decide +kernel
theorem dX10_cut_14 : decode cX10_cut 14 = .ok (.aload_n 0, 1) := by decide +kernel
theorem dX10_cut_15 : decode cX10_cut 15 = .ok (.getfield 9, 3) := by decide +kernel
theorem dX10_cut_18 : decode cX10_cut 18 = .ok (.iconst 0, 1) := by decide +kernel
theorem dX10_cut_19 : decode cX10_cut 19 = .ok (.iload_n 3, 1) := by decide +kernel
theorem dX10_cut_20 : decode cX10_cut 20 = .ok (.invokestatic 47, 3) := by decide +kernel
theorem dX10_cut_23 : decode cX10_cut 23 = .ok (.aload_n 0, 1) := by decide +kernel
theorem dX10_cut_24 : decode cX10_cut 24 = .ok (.iconst (-1), 1) := by decide +kernel
theorem dX10_cut_25 : decode cX10_cut 25 = .ok (.putfield 30, 3) := by decide +kernel
theorem dX10_cut_28 : decode cX10_cut 28 = .ok (.aload_n 0, 1) := by decide +kernel
theorem dX10_cut_29 : decode cX10_cut 29 = .ok (.iconst 0, 1) := by decide +kernel
theorem dX10_cut_30 : decode cX10_cut 30 = .ok (.putfield 53, 3) := by decide +kernel
theorem dX10_cut_33 : decode cX10_cut 33 = .ok (.iconst 0, 1) := by decide +kernel
theorem dX10_cut_34 : decode cX10_cut 34 = .ok (.istore 4, 2) := by decide +kernel
theorem dX10_cut_36 : decode cX10_cut 36 = .ok (.iconst 0, 1) := by decide +kernel
theorem dX10_cut_37 : decode cX10_cut 37 = .ok (.istore 5, 2) := by decide +kernel
theorem dX10_cut_39 : decode cX10_cut 39 = .ok (.iload 5, 2) := by decide +kernel
theorem dX10_cut_41 : decode cX10_cut 41 = .ok (.iload_n 3, 1) := by decide +kernel
theorem dX10_cut_42 : decode cX10_cut 42 = .ok (.if_icmp .ge 88, 3) := by decide +kernel
theorem dX10_cut_45 : decode cX10_cut 45 = .ok (.iload 5, 2) := by decide +kernel
theorem dX10_cut_47 : decode cX10_cut 47 = .ok (.istore 6, 2) := by decide +kernel
theorem dX10_cut_49 : decode cX10_cut 49 = .ok (.aload_n 0, 1) := by decide +kernel
theorem dX10_cut_50 : decode cX10_cut 50 = .ok (.getfield 9, 3) := by decide +kernel
theorem dX10_cut_53 : decode cX10_cut 53 = .ok (.iload 6, 2) := by decide +kernel
theorem dX10_cut_55 : decode cX10_cut 55 = .ok (.iaload, 1) := by decide +kernel
theorem dX10_cut_56 : decode cX10_cut 56 = .ok (.invokestatic 56, 3) := by decide +kernel
theorem dX10_cut_59 : decode cX10_cut 59 = .ok (.istore 7, 2) := by decide +kernel
theorem dX10_cut_61 : decode cX10_cut 61 = .ok (.iinc 5 1, 3) := by decide +kernel
theorem dX10_cut_64 : decode cX10_cut 64 = .ok (.iload 5, 2) := by decide +kernel
theorem dX10_cut_66 : decode cX10_cut 66 = .ok (.iload_n 3, 1) := by decide +kernel
theorem dX10_cut_67 : decode cX10_cut 67 = .ok (.if_icmp .ge 30, 3) := by decide +kernel
theorem dX10_cut_70 : decode cX10_cut 70 = .ok (.iload 7, 2) := by decide +kernel
theorem dX10_cut_72 : decode cX10_cut 72 = .ok (.iconst 2, 1) := by decide +kernel
theorem dX10_cut_73 : decode cX10_cut 73 = .ok (.if_icmp .eq 24, 3) := by decide +kernel
theorem dX10_cut_76 : decode cX10_cut 76 = .ok (.aload_n 0, 1) := by decide +kernel
theorem dX10_cut_77 : decode cX10_cut 77 = .ok (.getfield 9, 3) := by decide +kernel
theorem dX10_cut_80 : decode cX10_cut 80 = .ok (.iload 5, 2) := by decide +kernel
theorem dX10_cut_82 : decode cX10_cut 82 = .ok (.iaload, 1) := by decide +kernel
theorem dX10_cut_83 : decode cX10_cut 83 = .ok (.invokestatic 56, 3) := by decide +kernel
theorem dX10_cut_86 : decode cX10_cut 86 = .ok (.iload 7, 2) := by decide +kernel
theorem dX10_cut_88 : decode cX10_cut 88 = .ok (.if_icmp .ne 9, 3) := by decide +kernel
theorem dX10_cut_91 : decode cX10_cut 91 = .ok (.iinc 5 1, 3) := by decide +kernel
theorem dX10_cut_94 : decode cX10_cut 94 = .ok (.goto (-30), 3) := by decide +kernel
theorem dX10_cut_97 : decode cX10_cut 97 = .ok (.aload_n 0, 1) := by decide +kernel
theorem dX10_cut_98 : decode cX10_cut 98 = .ok (.getfield 9, 3) := by decide +kernel
theorem dX10_cut_101 : decode cX10_cut 101 = .ok (.iload 6, 2) := by decide +kernel
theorem dX10_cut_103 : decode cX10_cut 103 = .ok (.iaload, 1) := by decide +kernel
theorem dX10_cut_104 : decode cX10_cut 104 = .ok (.bipush 32, 2) := by decide +kernel
theorem dX10_cut_106 : decode cX10_cut 106 = .ok (.if_icmp .eq 21, 3) := by decide +kernel
theorem dX10_cut_109 : decode cX10_cut 109 = .ok (.aload_n 0, 1) := by decide +kernel
theorem dX10_cut_110 : decode cX10_cut 110 = .ok (.iload 4, 2) := by decide +kernel
theorem dX10_cut_112 : decode cX10_cut 112 = .ok (.iload 7, 2) := by decide +kernel
theorem dX10_cut_114 : decode cX10_cut 114 = .ok (.iload 6, 2) := by decide +kernel
theorem dX10_cut_116 : decode cX10_cut 116 = .ok (.iload 5, 2) := by decide +kernel
theorem dX10_cut_118 : decode cX10_cut 118 = .ok (.iload 6, 2) := by decide +kernel
theorem dX10_cut_120 : decode cX10_cut 120 = .ok (.isub, 1) := by decide +kernel
theorem dX10_cut_121 : decode cX10_cut 121 = .ok (.invokevirtual 60, 3) := by decide +kernel
theorem dX10_cut_124 : decode cX10_cut 124 = .ok (.iinc 4 1, 3) := by decide +kernel
theorem dX10_cut_127 : decode cX10_cut 127 = .ok (.goto (-88), 3) := by decide +kernel
theorem dX10_cut_130 : decode cX10_cut 130 = .ok (.aload_n 0, 1) := by decide +kernel
theorem dX10_cut_131 : decode cX10_cut 131 = .ok (.getfield 17, 3) := by decide +kernel
theorem dX10_cut_134 : decode cX10_cut 134 = .ok (.iload 4, 2) := by decide +kernel
theorem dX10_cut_136 : decode cX10_cut 136 = .ok (.getstatic 34, 3) := by decide +kernel
theorem dX10_cut_139 : decode cX10_cut 139 = .ok (.aastore, 1) := by decide +kernel
theorem dX10_cut_140 : decode cX10_cut 140 = .ok (.aload_n 0, 1) := by decide +kernel
theorem dX10_cut_141 : decode cX10_cut 141 = .ok (.getfield 21, 3) := by decide +kernel
theorem dX10_cut_144 : decode cX10_cut 144 = .ok (.iload 4, 2) := by decide +kernel
theorem dX10_cut_146 : decode cX10_cut 146 = .ok (.iload_n 3, 1) := by decide +kernel
theorem dX10_cut_147 : decode cX10_cut 147 = .ok (.iastore, 1) := by decide +kernel
theorem dX10_cut_148 : decode cX10_cut 148 = .ok (.aload_n 0, 1) := by decide +kernel
theorem dX10_cut_149 : decode cX10_cut 149 = .ok (.getfield 24, 3) := by decide +kernel
theorem dX10_cut_152 : decode cX10_cut 152 = .ok (.iload 4, 2) := by decide +kernel
theorem dX10_cut_154 : decode cX10_cut 154 = .ok (.iconst 0, 1) := by decide +kernel
theorem dX10_cut_155 : decode cX10_cut 155 = .ok (.iastore, 1) := by decide +kernel
theorem dX10_cut_156 : decode cX10_cut 156 = .ok (.aload_n 0, 1) := by decide +kernel
theorem dX10_cut_157 : decode cX10_cut 157 = .ok (.getfield 27, 3) := by decide +kernel
theorem dX10_cut_160 : decode cX10_cut 160 = .ok (.iload 4, 2) := by decide +kernel
theorem dX10_cut_162 : decode cX10_cut 162 = .ok (.iconst (-1), 1) := by decide +kernel
theorem dX10_cut_163 : decode cX10_cut 163 = .ok (.iastore, 1) := by decide +kernel
theorem dX10_cut_164 : decode cX10_cut 164 = .ok (.return_, 1) := by decide +kernel
theorem dX10_typeOf_0 : decode cX10_typeOf 0 = .ok (.iload_n 0, 1) := by decide +kernel
theorem dX10_typeOf_1 : decode cX10_typeOf 1 = .ok (.bipush 97, 2) := by decide +kernel
theorem dX10_typeOf_3 : decode cX10_typeOf 3 = .ok (.if_icmp .lt 11, 3) := by decide +kernel
theorem dX10_typeOf_6 : decode cX10_typeOf 6 = .ok (.iload_n 0, 1) := by decide +kernel
theorem dX10_typeOf_7 : decode cX10_typeOf 7 = .ok (.bipush 122, 2) := by decide +kernel
theorem dX10_typeOf_9 : decode cX10_typeOf 9 = .ok (.if_icmp .gt 5, 3) := by decide +kernel
theorem dX10_typeOf_12 : decode cX10_typeOf 12 = .ok (.iconst 0, 1) := by decide +kernel
theorem dX10_typeOf_13 : decode cX10_typeOf 13 = .ok (.ireturn, 1) := by decide +kernel
theorem dX10_typeOf_14 : decode cX10_typeOf 14 = .ok (.iload_n 0, 1) := by decide +kernel
theorem dX10_typeOf_15 : decode cX10_typeOf 15 = .ok (.bipush 48, 2) := by decide +kernel
theorem dX10_typeOf_17 : decode cX10_typeOf 17 = .ok (.if_icmp .lt 13, 3) := by decide +kernel
theorem dX10_typeOf_20 : decode cX10_typeOf 20 = .ok (.iload_n 0, 1) := by decide +kernel
theorem dX10_typeOf_21 : decode cX10_typeOf 21 = .ok (.bipush 57, 2) := by decide +kernel
theorem dX10_typeOf_23 : decode cX10_typeOf 23 = .ok (.if_icmp .gt 7, 3) := by decide +kernel
theorem dX10_typeOf_26 : decode cX10_typeOf 26 = .ok (.iconst 1, 1) := by decide +kernel
theorem dX10_typeOf_27 : decode cX10_typeOf 27 = .ok (.goto 4, 3) := by decide +kernel
theorem dX10_typeOf_30 : decode cX10_typeOf 30 = .ok (.iconst 2, 1) := by decide +kernel
theorem dX10_typeOf_31 : decode cX10_typeOf 31 = .ok (.ireturn, 1) := by decide +kernel
theorem dX10_put_0 : decode cX10_put 0 = .ok (.aload_n 0, 1) := by decide +kernel
theorem dX10_put_1 : decode cX10_put 1 = .ok (.getfield 21, 3) := by decide +kernel
theorem dX10_put_4 : decode cX10_put 4 = .ok (.iload_n 1, 1) := by decide +kernel
theorem dX10_put_5 : decode cX10_put 5 = .ok (.iload_n 3, 1) := by decide +kernel
theorem dX10_put_6 : decode cX10_put 6 = .ok (.iastore, 1) := by decide +kernel
theorem dX10_put_7 : decode cX10_put 7 = .ok (.aload_n 0, 1) := by decide +kernel
theorem dX10_put_8 : decode cX10_put 8 = .ok (.getfield 24, 3) := by decide +kernel
theorem dX10_put_11 : decode cX10_put 11 = .ok (.iload_n 1, 1) := by decide +kernel
theorem dX10_put_12 : decode cX10_put 12 = .ok (.iload 4, 2) := by decide +kernel
theorem dX10_put_14 : decode cX10_put 14 = .ok (.iastore, 1) := by decide +kernel
theorem dX10_put_15 : decode cX10_put 15 = .ok (.iload_n 2, 1) := by decide +kernel
theorem dX10_put_16 : decode cX10_put 16 = .ok (.iconst 1, 1) := by decide +kernel
theorem dX10_put_17 : decode cX10_put 17 = .ok (.if_icmp .ne 28, 3) := by decide +kernel
theorem dX10_put_20 : decode cX10_put 20 = .ok (.aload_n 0, 1) := by decide +kernel
theorem dX10_put_21 : decode cX10_put 21 = .ok (.getfield 17, 3) := by decide +kernel
theorem dX10_put_24 : decode cX10_put 24 = .ok (.iload_n 1, 1) := by decide +kernel
theorem dX10_put_25 : decode cX10_put 25 = .ok (.getstatic 64, 3) := by decide +kernel
theorem dX10_put_28 : decode cX10_put 28 = .ok (.aastore, 1) := by decide +kernel
theorem dX10_put_29 : decode cX10_put 29 = .ok (.aload_n 0, 1) := by decide +kernel
theorem dX10_put_30 : decode cX10_put 30 = .ok (.getfield 27, 3) := by decide +kernel
theorem dX10_put_33 : decode cX10_put 33 = .ok (.iload_n 1, 1) := by decide +kernel
theorem dX10_put_34 : decode cX10_put 34 = .ok (.aload_n 0, 1) := by decide +kernel
theorem dX10_put_35 : decode cX10_put 35 = .ok (.iload_n 3, 1) := by decide +kernel
theorem dX10_put_36 : decode cX10_put 36 = .ok (.iload 4, 2) := by decide +kernel
theorem dX10_put_38 : decode cX10_put 38 = .ok (.invokevirtual 67, 3) := by decide +kernel
theorem dX10_put_41 : decode cX10_put 41 = .ok (.iastore, 1) := by decide +kernel
theorem dX10_put_42 : decode cX10_put 42 = .ok (.goto 34, 3) := by decide +kernel
theorem dX10_put_45 : decode cX10_put 45 = .ok (.aload_n 0, 1) := by decide +kernel
theorem dX10_put_46 : decode cX10_put 46 = .ok (.getfield 17, 3) := by decide +kernel
theorem dX10_put_49 : decode cX10_put 49 = .ok (.iload_n 1, 1) := by decide +kernel
theorem dX10_put_50 : decode cX10_put 50 = .ok (.aload_n 0, 1) := by decide +kernel
theorem dX10_put_51 : decode cX10_put 51 = .ok (.getfield 9, 3) := by decide +kernel
theorem dX10_put_54 : decode cX10_put 54 = .ok (.iload_n 3, 1) := by decide +kernel
theorem dX10_put_55 : decode cX10_put 55 = .ok (.iload 4, 2) := by decide +kernel
theorem dX10_put_57 : decode cX10_put 57 = .ok (.invokestatic 70, 3) := by decide +kernel
theorem dX10_put_60 : decode cX10_put 60 = .ok (.aastore, 1) := by decide +kernel
theorem dX10_put_61 : decode cX10_put 61 = .ok (.aload_n 0, 1) := by decide +kernel
theorem dX10_put_62 : decode cX10_put 62 = .ok (.getfield 27, 3) := by decide +kernel
theorem dX10_put_65 : decode cX10_put 65 = .ok (.iload_n 1, 1) := by decide +kernel
theorem dX10_put_66 : decode cX10_put 66 = .ok (.aload_n 0, 1) := by decide +kernel
theorem dX10_put_67 : decode cX10_put 67 = .ok (.getfield 17, 3) := by decide +kernel
theorem dX10_put_70 : decode cX10_put 70 = .ok (.iload_n 1, 1) := by decide +kernel
theorem dX10_put_71 : decode cX10_put 71 = .ok (.aaload, 1) := by decide +kernel
theorem dX10_put_72 : decode cX10_put 72 = .ok (.getfield 74, 3) := by decide +kernel
theorem dX10_put_75 : decode cX10_put 75 = .ok (.iastore, 1) := by decide +kernel
theorem dX10_put_76 : decode cX10_put 76 = .ok (.return_, 1) := by decide +kernel
theorem dX10_numberAt_0 : decode cX10_numberAt 0 = .ok (.iload_n 2, 1) := by decide +kernel
theorem dX10_numberAt_1 : decode cX10_numberAt 1 = .ok (.iconst 3, 1) := by decide +kernel
theorem dX10_numberAt_2 : decode cX10_numberAt 2 = .ok (.if_icmp .le 5, 3) := by decide +kernel
theorem dX10_numberAt_5 : decode cX10_numberAt 5 = .ok (.iconst (-1), 1) := by decide +kernel
theorem dX10_numberAt_6 : decode cX10_numberAt 6 = .ok (.ireturn, 1) := by decide +kernel
theorem dX10_numberAt_7 : decode cX10_numberAt 7 = .ok (.iconst 0, 1) := by decide +kernel
theorem dX10_numberAt_8 : decode cX10_numberAt 8 = .ok (.istore_n 3, 1) := by decide +kernel
theorem dX10_numberAt_9 : decode cX10_numberAt 9 = .ok (.iconst 0, 1) := by decide +kernel
theorem dX10_numberAt_10 : decode cX10_numberAt 10 = .ok (.istore 4, 2) := by decide +kernel
theorem dX10_numberAt_12 : decode cX10_numberAt 12 = .ok (.iload 4, 2) := by decide +kernel
theorem dX10_numberAt_14 : decode cX10_numberAt 14 = .ok (.iload_n 2, 1) := by decide +kernel
theorem dX10_numberAt_15 : decode cX10_numberAt 15 = .ok (.if_icmp .ge 27, 3) := by decide +kernel
theorem dX10_numberAt_18 : decode cX10_numberAt 18 = .ok (.iload_n 3, 1) := by decide +kernel
theorem dX10_numberAt_19 : decode cX10_numberAt 19 = .ok (.bipush 10, 2) := by decide +kernel
theorem dX10_numberAt_21 : decode cX10_numberAt 21 = .ok (.imul, 1) := by decide +kernel
theorem dX10_numberAt_22 : decode cX10_numberAt 22 = .ok (.aload_n 0, 1) := by decide +kernel
theorem dX10_numberAt_23 : decode cX10_numberAt 23 = .ok (.getfield 9, 3) := by decide +kernel
theorem dX10_numberAt_26 : decode cX10_numberAt 26 = .ok (.iload_n 1, 1) := by decide +kernel
theorem dX10_numberAt_27 : decode cX10_numberAt 27 = .ok (.iload 4, 2) := by decide +kernel
theorem dX10_numberAt_29 : decode cX10_numberAt 29 = .ok (.iadd, 1) := by decide +kernel
theorem dX10_numberAt_30 : decode cX10_numberAt 30 = .ok (.iaload, 1) := by decide +kernel
theorem dX10_numberAt_31 : decode cX10_numberAt 31 = .ok (.iadd, 1) := by decide +kernel
theorem dX10_numberAt_32 : decode cX10_numberAt 32 = .ok (.bipush 48, 2) := by decide +kernel
theorem dX10_numberAt_34 : decode cX10_numberAt 34 = .ok (.isub, 1) := by decide +kernel
theorem dX10_numberAt_35 : decode cX10_numberAt 35 = .ok (.istore_n 3, 1) := by decide +kernel
theorem dX10_numberAt_36 : decode cX10_numberAt 36 = .ok (.iinc 4 1, 3) := by decide +kernel
theorem dX10_numberAt_39 : decode cX10_numberAt 39 = .ok (.goto (-27), 3) := by decide +kernel
theorem dX10_numberAt_42 : decode cX10_numberAt 42 = .ok (.iload_n 3, 1) := by decide +kernel
theorem dX10_numberAt_43 : decode cX10_numberAt 43 = .ok (.ireturn, 1) := by decide +kernel
theorem dX10_refuse_0 : decode cX10_refuse 0 = .ok (.aload_n 0, 1) := by decide +kernel
theorem dX10_refuse_1 : decode cX10_refuse 1 = .ok (.getfield 30, 3) := by decide +kernel
theorem dX10_refuse_4 : decode cX10_refuse 4 = .ok (.iconst (-1), 1) := by decide +kernel
theorem dX10_refuse_5 : decode cX10_refuse 5 = .ok (.if_icmp .ne 16, 3) := by decide +kernel
theorem dX10_refuse_8 : decode cX10_refuse 8 = .ok (.aload_n 0, 1) := by decide +kernel
theorem dX10_refuse_9 : decode cX10_refuse 9 = .ok (.aload_n 0, 1) := by decide +kernel
theorem dX10_refuse_10 : decode cX10_refuse 10 = .ok (.getfield 21, 3) := by decide +kernel
theorem dX10_refuse_13 : decode cX10_refuse 13 = .ok (.aload_n 0, 1) := by decide +kernel
theorem dX10_refuse_14 : decode cX10_refuse 14 = .ok (.getfield 53, 3) := by decide +kernel
theorem dX10_refuse_17 : decode cX10_refuse 17 = .ok (.iaload, 1) := by decide +kernel
theorem dX10_refuse_18 : decode cX10_refuse 18 = .ok (.putfield 30, 3) := by decide +kernel
theorem dX10_refuse_21 : decode cX10_refuse 21 = .ok (.return_, 1) := by decide +kernel
theorem dX10_sees_0 : decode cX10_sees 0 = .ok (.aload_n 0, 1) := by decide +kernel
theorem dX10_sees_1 : decode cX10_sees 1 = .ok (.getfield 30, 3) := by decide +kernel
theorem dX10_sees_4 : decode cX10_sees 4 = .ok (.iconst (-1), 1) := by decide +kernel
theorem dX10_sees_5 : decode cX10_sees 5 = .ok (.if_icmp .ne 20, 3) := by decide +kernel
theorem dX10_sees_8 : decode cX10_sees 8 = .ok (.aload_n 0, 1) := by decide +kernel
theorem dX10_sees_9 : decode cX10_sees 9 = .ok (.getfield 17, 3) := by decide +kernel
theorem dX10_sees_12 : decode cX10_sees 12 = .ok (.aload_n 0, 1) := by decide +kernel
theorem dX10_sees_13 : decode cX10_sees 13 = .ok (.getfield 53, 3) := by decide +kernel
theorem dX10_sees_16 : decode cX10_sees 16 = .ok (.aaload, 1) := by decide +kernel
theorem dX10_sees_17 : decode cX10_sees 17 = .ok (.aload_n 1, 1) := by decide +kernel
theorem dX10_sees_18 : decode cX10_sees 18 = .ok (.if_acmp .ne 7, 3) := by decide +kernel
theorem dX10_sees_21 : decode cX10_sees 21 = .ok (.iconst 1, 1) := by decide +kernel
theorem dX10_sees_22 : decode cX10_sees 22 = .ok (.goto 4, 3) := by decide +kernel
theorem dX10_sees_25 : decode cX10_sees 25 = .ok (.iconst 0, 1) := by decide +kernel
theorem dX10_sees_26 : decode cX10_sees 26 = .ok (.ireturn, 1) := by decide +kernel
theorem dX10_takes_0 : decode cX10_takes 0 = .ok (.aload_n 0, 1) := by decide +kernel
theorem dX10_takes_1 : decode cX10_takes 1 = .ok (.getfield 30, 3) := by decide +kernel
theorem dX10_takes_4 : decode cX10_takes 4 = .ok (.iconst (-1), 1) := by decide +kernel
theorem dX10_takes_5 : decode cX10_takes 5 = .ok (.if_icmp .ne 23, 3) := by decide +kernel
theorem dX10_takes_8 : decode cX10_takes 8 = .ok (.aload_n 0, 1) := by decide +kernel
theorem dX10_takes_9 : decode cX10_takes 9 = .ok (.getfield 17, 3) := by decide +kernel
theorem dX10_takes_12 : decode cX10_takes 12 = .ok (.aload_n 0, 1) := by decide +kernel
theorem dX10_takes_13 : decode cX10_takes 13 = .ok (.getfield 53, 3) := by decide +kernel
theorem dX10_takes_16 : decode cX10_takes 16 = .ok (.aaload, 1) := by decide +kernel
theorem dX10_takes_17 : decode cX10_takes 17 = .ok (.aload_n 1, 1) := by decide +kernel
theorem dX10_takes_18 : decode cX10_takes 18 = .ok (.if_acmp .ne 10, 3) := by decide +kernel
theorem dX10_takes_21 : decode cX10_takes 21 = .ok (.aload_n 1, 1) := by decide +kernel
theorem dX10_takes_22 : decode cX10_takes 22 = .ok (.getstatic 34, 3) := by decide +kernel
theorem dX10_takes_25 : decode cX10_takes 25 = .ok (.if_acmp .ne 5, 3) := by decide +kernel
theorem dX10_takes_28 : decode cX10_takes 28 = .ok (.iconst 0, 1) := by decide +kernel
theorem dX10_takes_29 : decode cX10_takes 29 = .ok (.ireturn, 1) := by decide +kernel
theorem dX10_takes_30 : decode cX10_takes 30 = .ok (.aload_n 0, 1) := by decide +kernel
theorem dX10_takes_31 : decode cX10_takes 31 = .ok (.dup, 1) := by decide +kernel
theorem dX10_takes_32 : decode cX10_takes 32 = .ok (.getfield 53, 3) := by decide +kernel
theorem dX10_takes_35 : decode cX10_takes 35 = .ok (.iconst 1, 1) := by decide +kernel
theorem dX10_takes_36 : decode cX10_takes 36 = .ok (.iadd, 1) := by decide +kernel
theorem dX10_takes_37 : decode cX10_takes 37 = .ok (.putfield 53, 3) := by decide +kernel
theorem dX10_takes_40 : decode cX10_takes 40 = .ok (.iconst 1, 1) := by decide +kernel
theorem dX10_takes_41 : decode cX10_takes 41 = .ok (.ireturn, 1) := by decide +kernel
theorem dX10_need_0 : decode cX10_need 0 = .ok (.aload_n 0, 1) := by decide +kernel
theorem dX10_need_1 : decode cX10_need 1 = .ok (.aload_n 1, 1) := by decide +kernel
theorem dX10_need_2 : decode cX10_need 2 = .ok (.invokevirtual 77, 3) := by decide +kernel
theorem dX10_need_5 : decode cX10_need 5 = .ok (.ifCond .ne 7, 3) := by decide +kernel
theorem dX10_need_8 : decode cX10_need 8 = .ok (.aload_n 0, 1) := by decide +kernel
theorem dX10_need_9 : decode cX10_need 9 = .ok (.invokevirtual 81, 3) := by decide +kernel
theorem dX10_need_12 : decode cX10_need 12 = .ok (.return_, 1) := by decide +kernel
theorem dX10_needEnd_0 : decode cX10_needEnd 0 = .ok (.aload_n 0, 1) := by decide +kernel
theorem dX10_needEnd_1 : decode cX10_needEnd 1 = .ok (.getfield 17, 3) := by decide +kernel
theorem dX10_needEnd_4 : decode cX10_needEnd 4 = .ok (.aload_n 0, 1) := by decide +kernel
theorem dX10_needEnd_5 : decode cX10_needEnd 5 = .ok (.getfield 53, 3) := by decide +kernel
theorem dX10_needEnd_8 : decode cX10_needEnd 8 = .ok (.aaload, 1) := by decide +kernel
theorem dX10_needEnd_9 : decode cX10_needEnd 9 = .ok (.getstatic 34, 3) := by decide +kernel
theorem dX10_needEnd_12 : decode cX10_needEnd 12 = .ok (.if_acmp .eq 7, 3) := by decide +kernel
theorem dX10_needEnd_15 : decode cX10_needEnd 15 = .ok (.aload_n 0, 1) := by decide +kernel
theorem dX10_needEnd_16 : decode cX10_needEnd 16 = .ok (.invokevirtual 81, 3) := by decide +kernel
theorem dX10_needEnd_19 : decode cX10_needEnd 19 = .ok (.return_, 1) := by decide +kernel
theorem dX10_needNumber_0 : decode cX10_needNumber 0 = .ok (.aload_n 0, 1) := by decide +kernel
theorem dX10_needNumber_1 : decode cX10_needNumber 1 = .ok (.getfield 17, 3) := by decide +kernel
theorem dX10_needNumber_4 : decode cX10_needNumber 4 = .ok (.aload_n 0, 1) := by decide +kernel
theorem dX10_needNumber_5 : decode cX10_needNumber 5 = .ok (.getfield 53, 3) := by decide +kernel
theorem dX10_needNumber_8 : decode cX10_needNumber 8 = .ok (.aaload, 1) := by decide +kernel
theorem dX10_needNumber_9 : decode cX10_needNumber 9 = .ok (.getstatic 64, 3) := by decide +kernel
theorem dX10_needNumber_12 : decode cX10_needNumber 12 = .ok (.if_acmp .ne 33, 3) := by decide +kernel
theorem dX10_needNumber_15 : decode cX10_needNumber 15 = .ok (.aload_n 0, 1) := by decide +kernel
theorem dX10_needNumber_16 : decode cX10_needNumber 16 = .ok (.getfield 27, 3) := by decide +kernel
theorem dX10_needNumber_19 : decode cX10_needNumber 19 = .ok (.aload_n 0, 1) := by decide +kernel
theorem dX10_needNumber_20 : decode cX10_needNumber 20 = .ok (.getfield 53, 3) := by decide +kernel
theorem dX10_needNumber_23 : decode cX10_needNumber 23 = .ok (.iaload, 1) := by decide +kernel
theorem dX10_needNumber_24 : decode cX10_needNumber 24 = .ok (.iload_n 1, 1) := by decide +kernel
theorem dX10_needNumber_25 : decode cX10_needNumber 25 = .ok (.if_icmp .lt 20, 3) := by decide +kernel
theorem dX10_needNumber_28 : decode cX10_needNumber 28 = .ok (.aload_n 0, 1) := by decide +kernel
theorem dX10_needNumber_29 : decode cX10_needNumber 29 = .ok (.getfield 27, 3) := by decide +kernel
theorem dX10_needNumber_32 : decode cX10_needNumber 32 = .ok (.aload_n 0, 1) := by decide +kernel
theorem dX10_needNumber_33 : decode cX10_needNumber 33 = .ok (.getfield 53, 3) := by decide +kernel
theorem dX10_needNumber_36 : decode cX10_needNumber 36 = .ok (.iaload, 1) := by decide +kernel
theorem dX10_needNumber_37 : decode cX10_needNumber 37 = .ok (.iload_n 2, 1) := by decide +kernel
theorem dX10_needNumber_38 : decode cX10_needNumber 38 = .ok (.if_icmp .gt 7, 3) := by decide +kernel
theorem dX10_needNumber_41 : decode cX10_needNumber 41 = .ok (.iconst 1, 1) := by decide +kernel
theorem dX10_needNumber_42 : decode cX10_needNumber 42 = .ok (.goto 4, 3) := by decide +kernel
theorem dX10_needNumber_45 : decode cX10_needNumber 45 = .ok (.iconst 0, 1) := by decide +kernel
theorem dX10_needNumber_46 : decode cX10_needNumber 46 = .ok (.istore_n 3, 1) := by decide +kernel
theorem dX10_needNumber_47 : decode cX10_needNumber 47 = .ok (.aload_n 0, 1) := by decide +kernel
theorem dX10_needNumber_48 : decode cX10_needNumber 48 = .ok (.getfield 30, 3) := by decide +kernel
theorem dX10_needNumber_51 : decode cX10_needNumber 51 = .ok (.iconst (-1), 1) := by decide +kernel
theorem dX10_needNumber_52 : decode cX10_needNumber 52 = .ok (.if_icmp .ne 7, 3) := by decide +kernel
theorem dX10_needNumber_55 : decode cX10_needNumber 55 = .ok (.iload_n 3, 1) := by decide +kernel
theorem dX10_needNumber_56 : decode cX10_needNumber 56 = .ok (.ifCond .ne 9, 3) := by decide +kernel
theorem dX10_needNumber_59 : decode cX10_needNumber 59 = .ok (.aload_n 0, 1) := by decide +kernel
theorem dX10_needNumber_60 : decode cX10_needNumber 60 = .ok (.invokevirtual 81, 3) := by decide +kernel
theorem dX10_needNumber_63 : decode cX10_needNumber 63 = .ok (.iload_n 1, 1) := by decide +kernel
theorem dX10_needNumber_64 : decode cX10_needNumber 64 = .ok (.ireturn, 1) := by decide +kernel
theorem dX10_needNumber_65 : decode cX10_needNumber 65 = .ok (.aload_n 0, 1) := by decide +kernel
theorem dX10_needNumber_66 : decode cX10_needNumber 66 = .ok (.dup, 1) := by decide +kernel
theorem dX10_needNumber_67 : decode cX10_needNumber 67 = .ok (.getfield 53, 3) := by decide +kernel
theorem dX10_needNumber_70 : decode cX10_needNumber 70 = .ok (.iconst 1, 1) := by decide +kernel
theorem dX10_needNumber_71 : decode cX10_needNumber 71 = .ok (.iadd, 1) := by decide +kernel
theorem dX10_needNumber_72 : decode cX10_needNumber 72 = .ok (.putfield 53, 3) := by decide +kernel
theorem dX10_needNumber_75 : decode cX10_needNumber 75 = .ok (.aload_n 0, 1) := by decide +kernel
theorem dX10_needNumber_76 : decode cX10_needNumber 76 = .ok (.getfield 27, 3) := by decide +kernel
theorem dX10_needNumber_79 : decode cX10_needNumber 79 = .ok (.aload_n 0, 1) := by decide +kernel
theorem dX10_needNumber_80 : decode cX10_needNumber 80 = .ok (.getfield 53, 3) := by decide +kernel
theorem dX10_needNumber_83 : decode cX10_needNumber 83 = .ok (.iconst 1, 1) := by decide +kernel
theorem dX10_needNumber_84 : decode cX10_needNumber 84 = .ok (.isub, 1) := by decide +kernel
theorem dX10_needNumber_85 : decode cX10_needNumber 85 = .ok (.iaload, 1) := by decide +kernel
theorem dX10_needNumber_86 : decode cX10_needNumber 86 = .ok (.ireturn, 1) := by decide +kernel
theorem dX10_needTerm_0 : decode cX10_needTerm 0 = .ok (.aload_n 0, 1) := by decide +kernel
theorem dX10_needTerm_1 : decode cX10_needTerm 1 = .ok (.getfield 30, 3) := by decide +kernel
theorem dX10_needTerm_4 : decode cX10_needTerm 4 = .ok (.iconst (-1), 1) := by decide +kernel
theorem dX10_needTerm_5 : decode cX10_needTerm 5 = .ok (.if_icmp .ne 16, 3) := by decide +kernel
theorem dX10_needTerm_8 : decode cX10_needTerm 8 = .ok (.aload_n 0, 1) := by decide +kernel
theorem dX10_needTerm_9 : decode cX10_needTerm 9 = .ok (.getfield 27, 3) := by decide +kernel
theorem dX10_needTerm_12 : decode cX10_needTerm 12 = .ok (.aload_n 0, 1) := by decide +kernel
theorem dX10_needTerm_13 : decode cX10_needTerm 13 = .ok (.getfield 53, 3) := by decide +kernel
theorem dX10_needTerm_16 : decode cX10_needTerm 16 = .ok (.iaload, 1) := by decide +kernel
theorem dX10_needTerm_17 : decode cX10_needTerm 17 = .ok (.iconst (-1), 1) := by decide +kernel
theorem dX10_needTerm_18 : decode cX10_needTerm 18 = .ok (.if_icmp .ne 9, 3) := by decide +kernel
theorem dX10_needTerm_21 : decode cX10_needTerm 21 = .ok (.aload_n 0, 1) := by decide +kernel
theorem dX10_needTerm_22 : decode cX10_needTerm 22 = .ok (.invokevirtual 81, 3) := by decide +kernel
theorem dX10_needTerm_25 : decode cX10_needTerm 25 = .ok (.iconst 0, 1) := by decide +kernel
theorem dX10_needTerm_26 : decode cX10_needTerm 26 = .ok (.ireturn, 1) := by decide +kernel
theorem dX10_needTerm_27 : decode cX10_needTerm 27 = .ok (.aload_n 0, 1) := by decide +kernel
theorem dX10_needTerm_28 : decode cX10_needTerm 28 = .ok (.dup, 1) := by decide +kernel
theorem dX10_needTerm_29 : decode cX10_needTerm 29 = .ok (.getfield 53, 3) := by decide +kernel
theorem dX10_needTerm_32 : decode cX10_needTerm 32 = .ok (.iconst 1, 1) := by decide +kernel
theorem dX10_needTerm_33 : decode cX10_needTerm 33 = .ok (.iadd, 1) := by decide +kernel
theorem dX10_needTerm_34 : decode cX10_needTerm 34 = .ok (.putfield 53, 3) := by decide +kernel
theorem dX10_needTerm_37 : decode cX10_needTerm 37 = .ok (.aload_n 0, 1) := by decide +kernel
theorem dX10_needTerm_38 : decode cX10_needTerm 38 = .ok (.getfield 27, 3) := by decide +kernel
theorem dX10_needTerm_41 : decode cX10_needTerm 41 = .ok (.aload_n 0, 1) := by decide +kernel
theorem dX10_needTerm_42 : decode cX10_needTerm 42 = .ok (.getfield 53, 3) := by decide +kernel
theorem dX10_needTerm_45 : decode cX10_needTerm 45 = .ok (.iconst 1, 1) := by decide +kernel
theorem dX10_needTerm_46 : decode cX10_needTerm 46 = .ok (.isub, 1) := by decide +kernel
theorem dX10_needTerm_47 : decode cX10_needTerm 47 = .ok (.iaload, 1) := by decide +kernel
theorem dX10_needTerm_48 : decode cX10_needTerm 48 = .ok (.ireturn, 1) := by decide +kernel
theorem dX10_needKinds_0 : decode cX10_needKinds 0 = .ok (.iconst 0, 1) := by decide +kernel
theorem dX10_needKinds_1 : decode cX10_needKinds 1 = .ok (.istore_n 1, 1) := by decide +kernel
theorem dX10_needKinds_2 : decode cX10_needKinds 2 = .ok (.iconst 0, 1) := by decide +kernel
theorem dX10_needKinds_3 : decode cX10_needKinds 3 = .ok (.istore_n 2, 1) := by decide +kernel
theorem dX10_needKinds_4 : decode cX10_needKinds 4 = .ok (.iload_n 2, 1) := by decide +kernel
theorem dX10_needKinds_5 : decode cX10_needKinds 5 = .ok (.aload_n 0, 1) := by decide +kernel
theorem dX10_needKinds_6 : decode cX10_needKinds 6 = .ok (.getfield 24, 3) := by decide +kernel
theorem dX10_needKinds_9 : decode cX10_needKinds 9 = .ok (.aload_n 0, 1) := by decide +kernel
theorem dX10_needKinds_10 : decode cX10_needKinds 10 = .ok (.getfield 53, 3) := by decide +kernel
theorem dX10_needKinds_13 : decode cX10_needKinds 13 = .ok (.iaload, 1) := by decide +kernel
theorem dX10_needKinds_14 : decode cX10_needKinds 14 = .ok (.if_icmp .ge 59, 3) := by decide +kernel
theorem dX10_needKinds_17 : decode cX10_needKinds 17 = .ok (.aload_n 0, 1) := by decide +kernel
theorem dX10_needKinds_18 : decode cX10_needKinds 18 = .ok (.getfield 9, 3) := by decide +kernel
theorem dX10_needKinds_21 : decode cX10_needKinds 21 = .ok (.aload_n 0, 1) := by decide +kernel
theorem dX10_needKinds_22 : decode cX10_needKinds 22 = .ok (.getfield 21, 3) := by decide +kernel
theorem dX10_needKinds_25 : decode cX10_needKinds 25 = .ok (.aload_n 0, 1) := by decide +kernel
theorem dX10_needKinds_26 : decode cX10_needKinds 26 = .ok (.getfield 53, 3) := by decide +kernel
theorem dX10_needKinds_29 : decode cX10_needKinds 29 = .ok (.iaload, 1) := by decide +kernel
theorem dX10_needKinds_30 : decode cX10_needKinds 30 = .ok (.iload_n 2, 1) := by decide +kernel
theorem dX10_needKinds_31 : decode cX10_needKinds 31 = .ok (.iadd, 1) := by decide +kernel
theorem dX10_needKinds_32 : decode cX10_needKinds 32 = .ok (.iaload, 1) := by decide +kernel
theorem dX10_needKinds_33 : decode cX10_needKinds 33 = .ok (.bipush 97, 2) := by decide +kernel
theorem dX10_needKinds_35 : decode cX10_needKinds 35 = .ok (.isub, 1) := by decide +kernel
theorem dX10_needKinds_36 : decode cX10_needKinds 36 = .ok (.istore_n 3, 1) := by decide +kernel
theorem dX10_needKinds_37 : decode cX10_needKinds 37 = .ok (.iload_n 3, 1) := by decide +kernel
theorem dX10_needKinds_38 : decode cX10_needKinds 38 = .ok (.ifCond .lt 17, 3) := by decide +kernel
theorem dX10_needKinds_41 : decode cX10_needKinds 41 = .ok (.iload_n 3, 1) := by decide +kernel
theorem dX10_needKinds_42 : decode cX10_needKinds 42 = .ok (.iconst 5, 1) := by decide +kernel
theorem dX10_needKinds_43 : decode cX10_needKinds 43 = .ok (.if_icmp .ge 12, 3) := by decide +kernel
theorem dX10_needKinds_46 : decode cX10_needKinds 46 = .ok (.iload_n 1, 1) := by decide +kernel
theorem dX10_needKinds_47 : decode cX10_needKinds 47 = .ok (.iload_n 3, 1) := by decide +kernel
theorem dX10_needKinds_48 : decode cX10_needKinds 48 = .ok (.ishr, 1) := by decide +kernel
theorem dX10_needKinds_49 : decode cX10_needKinds 49 = .ok (.iconst 1, 1) := by decide +kernel
theorem dX10_needKinds_50 : decode cX10_needKinds 50 = .ok (.iand, 1) := by decide +kernel
theorem dX10_needKinds_51 : decode cX10_needKinds 51 = .ok (.iconst 1, 1) := by decide +kernel
theorem dX10_needKinds_52 : decode cX10_needKinds 52 = .ok (.if_icmp .ne 9, 3) := by decide +kernel
theorem dX10_needKinds_55 : decode cX10_needKinds 55 = .ok (.aload_n 0, 1) := by decide +kernel
theorem dX10_needKinds_56 : decode cX10_needKinds 56 = .ok (.invokevirtual 81, 3) := by decide +kernel
theorem dX10_needKinds_59 : decode cX10_needKinds 59 = .ok (.iconst 0, 1) := by decide +kernel
theorem dX10_needKinds_60 : decode cX10_needKinds 60 = .ok (.ireturn, 1) := by decide +kernel
theorem dX10_needKinds_61 : decode cX10_needKinds 61 = .ok (.iload_n 1, 1) := by decide +kernel
theorem dX10_needKinds_62 : decode cX10_needKinds 62 = .ok (.iconst 1, 1) := by decide +kernel
theorem dX10_needKinds_63 : decode cX10_needKinds 63 = .ok (.iload_n 3, 1) := by decide +kernel
theorem dX10_needKinds_64 : decode cX10_needKinds 64 = .ok (.ishl, 1) := by decide +kernel
theorem dX10_needKinds_65 : decode cX10_needKinds 65 = .ok (.ior, 1) := by decide +kernel
theorem dX10_needKinds_66 : decode cX10_needKinds 66 = .ok (.istore_n 1, 1) := by decide +kernel
theorem dX10_needKinds_67 : decode cX10_needKinds 67 = .ok (.iinc 2 1, 3) := by decide +kernel
theorem dX10_needKinds_70 : decode cX10_needKinds 70 = .ok (.goto (-66), 3) := by decide +kernel
theorem dX10_needKinds_73 : decode cX10_needKinds 73 = .ok (.aload_n 0, 1) := by decide +kernel
theorem dX10_needKinds_74 : decode cX10_needKinds 74 = .ok (.getfield 30, 3) := by decide +kernel
theorem dX10_needKinds_77 : decode cX10_needKinds 77 = .ok (.iconst (-1), 1) := by decide +kernel
theorem dX10_needKinds_78 : decode cX10_needKinds 78 = .ok (.if_icmp .ne 7, 3) := by decide +kernel
theorem dX10_needKinds_81 : decode cX10_needKinds 81 = .ok (.iload_n 1, 1) := by decide +kernel
theorem dX10_needKinds_82 : decode cX10_needKinds 82 = .ok (.ifCond .ne 9, 3) := by decide +kernel
theorem dX10_needKinds_85 : decode cX10_needKinds 85 = .ok (.aload_n 0, 1) := by decide +kernel
theorem dX10_needKinds_86 : decode cX10_needKinds 86 = .ok (.invokevirtual 81, 3) := by decide +kernel
theorem dX10_needKinds_89 : decode cX10_needKinds 89 = .ok (.iconst 0, 1) := by decide +kernel
theorem dX10_needKinds_90 : decode cX10_needKinds 90 = .ok (.ireturn, 1) := by decide +kernel
theorem dX10_needKinds_91 : decode cX10_needKinds 91 = .ok (.aload_n 0, 1) := by decide +kernel
theorem dX10_needKinds_92 : decode cX10_needKinds 92 = .ok (.dup, 1) := by decide +kernel
theorem dX10_needKinds_93 : decode cX10_needKinds 93 = .ok (.getfield 53, 3) := by decide +kernel
theorem dX10_needKinds_96 : decode cX10_needKinds 96 = .ok (.iconst 1, 1) := by decide +kernel
theorem dX10_needKinds_97 : decode cX10_needKinds 97 = .ok (.iadd, 1) := by decide +kernel
theorem dX10_needKinds_98 : decode cX10_needKinds 98 = .ok (.putfield 53, 3) := by decide +kernel
theorem dX10_needKinds_101 : decode cX10_needKinds 101 = .ok (.iload_n 1, 1) := by decide +kernel
theorem dX10_needKinds_102 : decode cX10_needKinds 102 = .ok (.ireturn, 1) := by decide +kernel
theorem dX11_init_0 : decode cX11_init 0 = .ok (.aload_n 0, 1) := by decide +kernel
theorem dX11_init_1 : decode cX11_init 1 = .ok (.invokespecial 1, 3) := by decide +kernel
theorem dX11_init_4 : decode cX11_init 4 = .ok (.aload_n 0, 1) := by decide +kernel
theorem dX11_init_5 : decode cX11_init 5 = .ok (.sipush 400, 3) := by decide +kernel
theorem dX11_init_8 : decode cX11_init 8 = .ok (.newarray .int, 2) := by decide +kernel
theorem dX11_init_10 : decode cX11_init 10 = .ok (.putfield 9, 3) := by decide +kernel
theorem dX11_init_13 : decode cX11_init 13 = .ok (.aload_n 0, 1) := by decide +kernel
theorem dX11_init_14 : decode cX11_init 14 = .ok (.iconst (-1), 1) := by decide +kernel
theorem dX11_init_15 : decode cX11_init 15 = .ok (.putfield 13, 3) := by decide +kernel
theorem dX11_init_18 : decode cX11_init 18 = .ok (.aload_n 0, 1) := by decide +kernel
theorem dX11_init_19 : decode cX11_init 19 = .ok (.new 17, 3) := by decide +kernel
theorem dX11_init_22 : decode cX11_init 22 = .ok (.dup, 1) := by decide +kernel
theorem dX11_init_23 : decode cX11_init 23 = .ok (.invokespecial 19, 3) := by decide +kernel
theorem dX11_init_26 : decode cX11_init 26 = .ok (.putfield 20, 3) := by decide +kernel
theorem dX11_init_29 : decode cX11_init 29 = .ok (.aload_n 0, 1) := by decide +kernel
theorem dX11_init_30 : decode cX11_init 30 = .ok (.new 17, 3) := by decide +kernel
theorem dX11_init_33 : decode cX11_init 33 = .ok (.dup, 1) := by decide +kernel
theorem dX11_init_34 : decode cX11_init 34 = .ok (.invokespecial 19, 3) := by decide +kernel
theorem dX11_init_37 : decode cX11_init 37 = .ok (.putfield 24, 3) := by decide +kernel
theorem dX11_init_40 : decode cX11_init 40 = .ok (.aload_n 0, 1) := by decide +kernel
theorem dX11_init_41 : decode cX11_init 41 = .ok (.new 27, 3) := by decide +kernel
theorem dX11_init_44 : decode cX11_init 44 = .ok (.dup, 1) := by decide +kernel
theorem dX11_init_45 : decode cX11_init 45 = .ok (.invokespecial 29, 3) := by decide +kernel
theorem dX11_init_48 : decode cX11_init 48 = .ok (.putfield 30, 3) := by decide +kernel
theorem dX11_init_51 : decode cX11_init 51 = .ok (.aload_n 0, 1) := by decide +kernel
theorem dX11_init_52 : decode cX11_init 52 = .ok (.new 27, 3) := by decide +kernel
theorem dX11_init_55 : decode cX11_init 55 = .ok (.dup, 1) := by decide +kernel
theorem dX11_init_56 : decode cX11_init 56 = .ok (.invokespecial 29, 3) := by decide +kernel
theorem dX11_init_59 : decode cX11_init 59 = .ok (.putfield 34, 3) := by decide +kernel
theorem dX11_init_62 : decode cX11_init 62 = .ok (.aload_n 0, 1) := by decide +kernel
theorem dX11_init_63 : decode cX11_init 63 = .ok (.new 37, 3) := by decide +kernel
theorem dX11_init_66 : decode cX11_init 66 = .ok (.dup, 1) := by decide +kernel
theorem dX11_init_67 : decode cX11_init 67 = .ok (.invokespecial 39, 3) := by decide +kernel
theorem dX11_init_70 : decode cX11_init 70 = .ok (.putfield 40, 3) := by decide +kernel
theorem dX11_init_73 : decode cX11_init 73 = .ok (.aload_n 0, 1) := by decide +kernel
theorem dX11_init_74 : decode cX11_init 74 = .ok (.new 44, 3) := by decide +kernel
theorem dX11_init_77 : decode cX11_init 77 = .ok (.dup, 1) := by decide +kernel
theorem dX11_init_78 : decode cX11_init 78 = .ok (.invokespecial 46, 3) := by decide +kernel
theorem dX11_init_81 : decode cX11_init 81 = .ok (.putfield 47, 3) := by decide +kernel
theorem dX11_init_84 : decode cX11_init 84 = .ok (.aload_n 0, 1) := by decide +kernel
theorem dX11_init_85 : decode cX11_init 85 = .ok (.new 51, 3) := by decide +kernel
theorem dX11_init_88 : decode cX11_init 88 = .ok (.dup, 1) := by decide +kernel
theorem dX11_init_89 : decode cX11_init 89 = .ok (.invokespecial 53, 3) := by decide +kernel
