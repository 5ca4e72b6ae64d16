set_option maxRecDepth 20000
theorem dX12_read_55 : decode cX12_read 55 = .ok (.aload_n 0, 1) := by decide +kernel
theorem dX12_read_56 : decode cX12_read 56 = .ok (.getfield 72, 3) := by decide +kernel
theorem dX12_read_59 : decode cX12_read 59 = .ok (.invokevirtual 98, 3) := by decide +kernel
theorem dX12_read_62 : decode cX12_read 62 = .ok (.goto 18, 3) := by decide +kernel
theorem dX12_read_65 : decode cX12_read 65 = .ok (.iload_n 1, 1) := by decide +kernel
theorem dX12_read_66 : decode cX12_read 66 = .ok (.ifCond .eq 10, 3) := by decide +kernel
theorem dX12_read_69 : decode cX12_read 69 = .ok (.aload_n 0, 1) := by decide +kernel
theorem dX12_read_70 : decode cX12_read 70 = .ok (.invokevirtual 164, 3) := by decide +kernel
theorem dX12_read_73 : decode cX12_read 73 = .ok (.goto 7, 3) := by decide +kernel
theorem dX12_read_76 : decode cX12_read 76 = .ok (.aload_n 0, 1) := by decide +kernel
theorem dX12_read_77 : decode cX12_read 77 = .ok (.invokevirtual 167, 3) := by decide +kernel
theorem dX12_read_80 : decode cX12_read 80 = .ok (.iinc 3 1, 3) := by decide +kernel
theorem dX12_read_83 : decode cX12_read 83 = .ok (.aload_n 0, 1) := by decide +kernel
theorem dX12_read_84 : decode cX12_read 84 = .ok (.invokevirtual 82, 3) := by decide +kernel
theorem dX12_read_87 : decode cX12_read 87 = .ok (.aload_n 0, 1) := by decide +kernel
theorem dX12_read_88 : decode cX12_read 88 = .ok (.getfield 28, 3) := by decide +kernel
theorem dX12_read_91 : decode cX12_read 91 = .ok (.iconst (-1), 1) := by decide +kernel
theorem dX12_read_92 : decode cX12_read 92 = .ok (.if_icmp .ne 14, 3) := by decide +kernel
theorem dX12_read_95 : decode cX12_read 95 = .ok (.aload_n 0, 1) := by decide +kernel
theorem dX12_read_96 : decode cX12_read 96 = .ok (.getfield 72, 3) := by decide +kernel
theorem dX12_read_99 : decode cX12_read 99 = .ok (.aload_n 0, 1) := by decide +kernel
theorem dX12_read_100 : decode cX12_read 100 = .ok (.getfield 75, 3) := by decide +kernel
theorem dX12_read_103 : decode cX12_read 103 = .ok (.if_icmp .ne 8, 3) := by decide +kernel
theorem dX12_read_106 : decode cX12_read 106 = .ok (.iconst 0, 1) := by decide +kernel
theorem dX12_read_107 : decode cX12_read 107 = .ok (.istore_n 2, 1) := by decide +kernel
theorem dX12_read_108 : decode cX12_read 108 = .ok (.goto (-85), 3) := by decide +kernel
theorem dX12_read_111 : decode cX12_read 111 = .ok (.aload_n 0, 1) := by decide +kernel
theorem dX12_read_112 : decode cX12_read 112 = .ok (.bipush 59, 2) := by decide +kernel
theorem dX12_read_114 : decode cX12_read 114 = .ok (.invokevirtual 170, 3) := by decide +kernel
theorem dX12_read_117 : decode cX12_read 117 = .ok (.ifCond .eq 16, 3) := by decide +kernel
theorem dX12_read_120 : decode cX12_read 120 = .ok (.aload_n 0, 1) := by decide +kernel
theorem dX12_read_121 : decode cX12_read 121 = .ok (.dup, 1) := by decide +kernel
theorem dX12_read_122 : decode cX12_read 122 = .ok (.getfield 72, 3) := by decide +kernel
theorem dX12_read_125 : decode cX12_read 125 = .ok (.iconst 1, 1) := by decide +kernel
theorem dX12_read_126 : decode cX12_read 126 = .ok (.iadd, 1) := by decide +kernel
theorem dX12_read_127 : decode cX12_read 127 = .ok (.putfield 72, 3) := by decide +kernel
theorem dX12_read_130 : decode cX12_read 130 = .ok (.goto (-107), 3) := by decide +kernel
theorem dX12_read_133 : decode cX12_read 133 = .ok (.aload_n 0, 1) := by decide +kernel
theorem dX12_read_134 : decode cX12_read 134 = .ok (.aload_n 0, 1) := by decide +kernel
theorem dX12_read_135 : decode cX12_read 135 = .ok (.getfield 72, 3) := by decide +kernel
theorem dX12_read_138 : decode cX12_read 138 = .ok (.invokevirtual 98, 3) := by decide +kernel
theorem dX12_read_141 : decode cX12_read 141 = .ok (.goto (-118), 3) := by decide +kernel
theorem dX12_read_144 : decode cX12_read 144 = .ok (.iload_n 3, 1) := by decide +kernel
theorem dX12_read_145 : decode cX12_read 145 = .ok (.ireturn, 1) := by decide +kernel
theorem dX12_putsAside_0 : decode cX12_putsAside 0 = .ok (.iconst 0, 1) := by decide +kernel
theorem dX12_putsAside_1 : decode cX12_putsAside 1 = .ok (.istore_n 1, 1) := by decide +kernel
theorem dX12_putsAside_2 : decode cX12_putsAside 2 = .ok (.iload_n 1, 1) := by decide +kernel
theorem dX12_putsAside_3 : decode cX12_putsAside 3 = .ok (.sipush 350, 3) := by decide +kernel
theorem dX12_putsAside_6 : decode cX12_putsAside 6 = .ok (.if_icmp .ge 21, 3) := by decide +kernel
theorem dX12_putsAside_9 : decode cX12_putsAside 9 = .ok (.aload_n 0, 1) := by decide +kernel
theorem dX12_putsAside_10 : decode cX12_putsAside 10 = .ok (.getfield 19, 3) := by decide +kernel
theorem dX12_putsAside_13 : decode cX12_putsAside 13 = .ok (.iload_n 1, 1) := by decide +kernel
theorem dX12_putsAside_14 : decode cX12_putsAside 14 = .ok (.aload_n 0, 1) := by decide +kernel
theorem dX12_putsAside_15 : decode cX12_putsAside 15 = .ok (.getfield 7, 3) := by decide +kernel
theorem dX12_putsAside_18 : decode cX12_putsAside 18 = .ok (.iload_n 1, 1) := by decide +kernel
theorem dX12_putsAside_19 : decode cX12_putsAside 19 = .ok (.iaload, 1) := by decide +kernel
theorem dX12_putsAside_20 : decode cX12_putsAside 20 = .ok (.iastore, 1) := by decide +kernel
theorem dX12_putsAside_21 : decode cX12_putsAside 21 = .ok (.iinc 1 1, 3) := by decide +kernel
theorem dX12_putsAside_24 : decode cX12_putsAside 24 = .ok (.goto (-22), 3) := by decide +kernel
theorem dX12_putsAside_27 : decode cX12_putsAside 27 = .ok (.return_, 1) := by decide +kernel
theorem dX12_comesBack_0 : decode cX12_comesBack 0 = .ok (.iconst 0, 1) := by decide +kernel
theorem dX12_comesBack_1 : decode cX12_comesBack 1 = .ok (.istore_n 1, 1) := by decide +kernel
theorem dX12_comesBack_2 : decode cX12_comesBack 2 = .ok (.iload_n 1, 1) := by decide +kernel
theorem dX12_comesBack_3 : decode cX12_comesBack 3 = .ok (.sipush 350, 3) := by decide +kernel
theorem dX12_comesBack_6 : decode cX12_comesBack 6 = .ok (.if_icmp .ge 21, 3) := by decide +kernel
theorem dX12_comesBack_9 : decode cX12_comesBack 9 = .ok (.aload_n 0, 1) := by decide +kernel
theorem dX12_comesBack_10 : decode cX12_comesBack 10 = .ok (.getfield 7, 3) := by decide +kernel
theorem dX12_comesBack_13 : decode cX12_comesBack 13 = .ok (.iload_n 1, 1) := by decide +kernel
theorem dX12_comesBack_14 : decode cX12_comesBack 14 = .ok (.aload_n 0, 1) := by decide +kernel
theorem dX12_comesBack_15 : decode cX12_comesBack 15 = .ok (.getfield 19, 3) := by decide +kernel
theorem dX12_comesBack_18 : decode cX12_comesBack 18 = .ok (.iload_n 1, 1) := by decide +kernel
theorem dX12_comesBack_19 : decode cX12_comesBack 19 = .ok (.iaload, 1) := by decide +kernel
theorem dX12_comesBack_20 : decode cX12_comesBack 20 = .ok (.iastore, 1) := by decide +kernel
theorem dX12_comesBack_21 : decode cX12_comesBack 21 = .ok (.iinc 1 1, 3) := by decide +kernel
theorem dX12_comesBack_24 : decode cX12_comesBack 24 = .ok (.goto (-22), 3) := by decide +kernel
theorem dX12_comesBack_27 : decode cX12_comesBack 27 = .ok (.return_, 1) := by decide +kernel
theorem dX12_house_0 : decode cX12_house 0 = .ok (.aload_n 0, 1) := by decide +kernel
theorem dX12_house_1 : decode cX12_house 1 = .ok (.invokevirtual 174, 3) := by decide +kernel
theorem dX12_house_4 : decode cX12_house 4 = .ok (.aload_n 0, 1) := by decide +kernel
theorem dX12_house_5 : decode cX12_house 5 = .ok (.invokevirtual 177, 3) := by decide +kernel
theorem dX12_house_8 : decode cX12_house 8 = .ok (.aload_n 0, 1) := by decide +kernel
theorem dX12_house_9 : decode cX12_house 9 = .ok (.iconst 0, 1) := by decide +kernel
theorem dX12_house_10 : decode cX12_house 10 = .ok (.invokevirtual 180, 3) := by decide +kernel
theorem dX12_house_13 : decode cX12_house 13 = .ok (.istore_n 1, 1) := by decide +kernel
theorem dX12_house_14 : decode cX12_house 14 = .ok (.aload_n 0, 1) := by decide +kernel
theorem dX12_house_15 : decode cX12_house 15 = .ok (.aload_n 0, 1) := by decide +kernel
theorem dX12_house_16 : decode cX12_house 16 = .ok (.getfield 28, 3) := by decide +kernel
theorem dX12_house_19 : decode cX12_house 19 = .ok (.iconst (-1), 1) := by decide +kernel
theorem dX12_house_20 : decode cX12_house 20 = .ok (.if_icmp .eq 7, 3) := by decide +kernel
theorem dX12_house_23 : decode cX12_house 23 = .ok (.iconst 1, 1) := by decide +kernel
theorem dX12_house_24 : decode cX12_house 24 = .ok (.goto 19, 3) := by decide +kernel
theorem dX12_house_27 : decode cX12_house 27 = .ok (.aload_n 0, 1) := by decide +kernel
theorem dX12_house_28 : decode cX12_house 28 = .ok (.getfield 7, 3) := by decide +kernel
theorem dX12_house_31 : decode cX12_house 31 = .ok (.iconst 0, 1) := by decide +kernel
theorem dX12_house_32 : decode cX12_house 32 = .ok (.iaload, 1) := by decide +kernel
theorem dX12_house_33 : decode cX12_house 33 = .ok (.bipush 12, 2) := by decide +kernel
theorem dX12_house_35 : decode cX12_house 35 = .ok (.if_icmp .ne 7, 3) := by decide +kernel
theorem dX12_house_38 : decode cX12_house 38 = .ok (.iconst 2, 1) := by decide +kernel
theorem dX12_house_39 : decode cX12_house 39 = .ok (.goto 4, 3) := by decide +kernel
theorem dX12_house_42 : decode cX12_house 42 = .ok (.iconst 0, 1) := by decide +kernel
theorem dX12_house_43 : decode cX12_house 43 = .ok (.putfield 55, 3) := by decide +kernel
theorem dX12_house_46 : decode cX12_house 46 = .ok (.aload_n 0, 1) := by decide +kernel
theorem dX12_house_47 : decode cX12_house 47 = .ok (.getfield 55, 3) := by decide +kernel
theorem dX12_house_50 : decode cX12_house 50 = .ok (.ifCond .le 9, 3) := by decide +kernel
theorem dX12_house_53 : decode cX12_house 53 = .ok (.aload_n 0, 1) := by decide +kernel
theorem dX12_house_54 : decode cX12_house 54 = .ok (.invokevirtual 184, 3) := by decide +kernel
theorem dX12_house_57 : decode cX12_house 57 = .ok (.iconst 0, 1) := by decide +kernel
theorem dX12_house_58 : decode cX12_house 58 = .ok (.ireturn, 1) := by decide +kernel
theorem dX12_house_59 : decode cX12_house 59 = .ok (.aload_n 0, 1) := by decide +kernel
theorem dX12_house_60 : decode cX12_house 60 = .ok (.getfield 7, 3) := by decide +kernel
theorem dX12_house_63 : decode cX12_house 63 = .ok (.iconst 0, 1) := by decide +kernel
theorem dX12_house_64 : decode cX12_house 64 = .ok (.dup2, 1) := by decide +kernel
theorem dX12_house_65 : decode cX12_house 65 = .ok (.iaload, 1) := by decide +kernel
theorem dX12_house_66 : decode cX12_house 66 = .ok (.iconst 1, 1) := by decide +kernel
theorem dX12_house_67 : decode cX12_house 67 = .ok (.iadd, 1) := by decide +kernel
theorem dX12_house_68 : decode cX12_house 68 = .ok (.iastore, 1) := by decide +kernel
theorem dX12_house_69 : decode cX12_house 69 = .ok (.aload_n 0, 1) := by decide +kernel
theorem dX12_house_70 : decode cX12_house 70 = .ok (.iconst 0, 1) := by decide +kernel
theorem dX12_house_71 : decode cX12_house 71 = .ok (.putfield 187, 3) := by decide +kernel
theorem dX12_house_74 : decode cX12_house 74 = .ok (.aload_n 0, 1) := by decide +kernel
theorem dX12_house_75 : decode cX12_house 75 = .ok (.getfield 7, 3) := by decide +kernel
theorem dX12_house_78 : decode cX12_house 78 = .ok (.iconst 0, 1) := by decide +kernel
theorem dX12_house_79 : decode cX12_house 79 = .ok (.iaload, 1) := by decide +kernel
theorem dX12_house_80 : decode cX12_house 80 = .ok (.ireturn, 1) := by decide +kernel
theorem dX12_part_0 : decode cX12_part 0 = .ok (.aload_n 0, 1) := by decide +kernel
theorem dX12_part_1 : decode cX12_part 1 = .ok (.getfield 28, 3) := by decide +kernel
theorem dX12_part_4 : decode cX12_part 4 = .ok (.iconst (-1), 1) := by decide +kernel
theorem dX12_part_5 : decode cX12_part 5 = .ok (.if_icmp .eq 5, 3) := by decide +kernel
theorem dX12_part_8 : decode cX12_part 8 = .ok (.iconst 0, 1) := by decide +kernel
theorem dX12_part_9 : decode cX12_part 9 = .ok (.ireturn, 1) := by decide +kernel
theorem dX12_part_10 : decode cX12_part 10 = .ok (.aload_n 0, 1) := by decide +kernel
theorem dX12_part_11 : decode cX12_part 11 = .ok (.invokevirtual 82, 3) := by decide +kernel
theorem dX12_part_14 : decode cX12_part 14 = .ok (.aload_n 0, 1) := by decide +kernel
theorem dX12_part_15 : decode cX12_part 15 = .ok (.getfield 72, 3) := by decide +kernel
theorem dX12_part_18 : decode cX12_part 18 = .ok (.aload_n 0, 1) := by decide +kernel
theorem dX12_part_19 : decode cX12_part 19 = .ok (.getfield 75, 3) := by decide +kernel
theorem dX12_part_22 : decode cX12_part 22 = .ok (.if_icmp .ge 30, 3) := by decide +kernel
theorem dX12_part_25 : decode cX12_part 25 = .ok (.aload_n 0, 1) := by decide +kernel
theorem dX12_part_26 : decode cX12_part 26 = .ok (.aload_n 0, 1) := by decide +kernel
theorem dX12_part_27 : decode cX12_part 27 = .ok (.getfield 72, 3) := by decide +kernel
theorem dX12_part_30 : decode cX12_part 30 = .ok (.invokevirtual 78, 3) := by decide +kernel
theorem dX12_part_33 : decode cX12_part 33 = .ok (.bipush 48, 2) := by decide +kernel
theorem dX12_part_35 : decode cX12_part 35 = .ok (.bipush 57, 2) := by decide +kernel
theorem dX12_part_37 : decode cX12_part 37 = .ok (.invokestatic 58, 3) := by decide +kernel
theorem dX12_part_40 : decode cX12_part 40 = .ok (.ifCond .eq 12, 3) := by decide +kernel
theorem dX12_part_43 : decode cX12_part 43 = .ok (.aload_n 0, 1) := by decide +kernel
theorem dX12_part_44 : decode cX12_part 44 = .ok (.iconst 0, 1) := by decide +kernel
theorem dX12_part_45 : decode cX12_part 45 = .ok (.sipush 999, 3) := by decide +kernel
theorem dX12_part_48 : decode cX12_part 48 = .ok (.invokevirtual 105, 3) := by decide +kernel
theorem dX12_part_51 : decode cX12_part 51 = .ok (.ireturn, 1) := by decide +kernel
theorem dX12_part_52 : decode cX12_part 52 = .ok (.aload_n 0, 1) := by decide +kernel
theorem dX12_part_53 : decode cX12_part 53 = .ok (.ldc 139, 2) := by decide +kernel
theorem dX12_part_55 : decode cX12_part 55 = .ok (.invokevirtual 102, 3) := by decide +kernel
theorem dX12_part_58 : decode cX12_part 58 = .ok (.ifCond .eq 7, 3) := by decide +kernel
theorem dX12_part_61 : decode cX12_part 61 = .ok (.iconst 0, 1) := by decide +kernel
theorem dX12_part_62 : decode cX12_part 62 = .ok (.goto 97, 3) := by decide +kernel
theorem dX12_part_65 : decode cX12_part 65 = .ok (.aload_n 0, 1) := by decide +kernel
theorem dX12_part_66 : decode cX12_part 66 = .ok (.ldc 126, 2) := by decide +kernel
theorem dX12_part_68 : decode cX12_part 68 = .ok (.invokevirtual 102, 3) := by decide +kernel
theorem dX12_part_71 : decode cX12_part 71 = .ok (.ifCond .eq 7, 3) := by decide +kernel
theorem dX12_part_74 : decode cX12_part 74 = .ok (.iconst 1, 1) := by decide +kernel
theorem dX12_part_75 : decode cX12_part 75 = .ok (.goto 84, 3) := by decide +kernel
theorem dX12_part_78 : decode cX12_part 78 = .ok (.aload_n 0, 1) := by decide +kernel
theorem dX12_part_79 : decode cX12_part 79 = .ok (.ldc 128, 2) := by decide +kernel
theorem dX12_part_81 : decode cX12_part 81 = .ok (.invokevirtual 102, 3) := by decide +kernel
theorem dX12_part_84 : decode cX12_part 84 = .ok (.ifCond .eq 7, 3) := by decide +kernel
theorem dX12_part_87 : decode cX12_part 87 = .ok (.iconst 2, 1) := by decide +kernel
theorem dX12_part_88 : decode cX12_part 88 = .ok (.goto 71, 3) := by decide +kernel
theorem dX12_part_91 : decode cX12_part 91 = .ok (.aload_n 0, 1) := by decide +kernel
theorem dX12_part_92 : decode cX12_part 92 = .ok (.ldc 190, 2) := by decide +kernel
theorem dX12_part_94 : decode cX12_part 94 = .ok (.invokevirtual 102, 3) := by decide +kernel
theorem dX12_part_97 : decode cX12_part 97 = .ok (.ifCond .eq 7, 3) := by decide +kernel
theorem dX12_part_100 : decode cX12_part 100 = .ok (.iconst 3, 1) := by decide +kernel
theorem dX12_part_101 : decode cX12_part 101 = .ok (.goto 58, 3) := by decide +kernel
theorem dX12_part_104 : decode cX12_part 104 = .ok (.aload_n 0, 1) := by decide +kernel
theorem dX12_part_105 : decode cX12_part 105 = .ok (.ldc 130, 2) := by decide +kernel
theorem dX12_part_107 : decode cX12_part 107 = .ok (.invokevirtual 102, 3) := by decide +kernel
theorem dX12_part_110 : decode cX12_part 110 = .ok (.ifCond .eq 7, 3) := by decide +kernel
theorem dX12_part_113 : decode cX12_part 113 = .ok (.iconst 4, 1) := by decide +kernel
theorem dX12_part_114 : decode cX12_part 114 = .ok (.goto 45, 3) := by decide +kernel
theorem dX12_part_117 : decode cX12_part 117 = .ok (.aload_n 0, 1) := by decide +kernel
theorem dX12_part_118 : decode cX12_part 118 = .ok (.ldc 144, 2) := by decide +kernel
theorem dX12_part_120 : decode cX12_part 120 = .ok (.invokevirtual 102, 3) := by decide +kernel
theorem dX12_part_123 : decode cX12_part 123 = .ok (.ifCond .eq 7, 3) := by decide +kernel
theorem dX12_part_126 : decode cX12_part 126 = .ok (.iconst 5, 1) := by decide +kernel
theorem dX12_part_127 : decode cX12_part 127 = .ok (.goto 32, 3) := by decide +kernel
theorem dX12_part_130 : decode cX12_part 130 = .ok (.aload_n 0, 1) := by decide +kernel
theorem dX12_part_131 : decode cX12_part 131 = .ok (.ldc 192, 2) := by decide +kernel
theorem dX12_part_133 : decode cX12_part 133 = .ok (.invokevirtual 102, 3) := by decide +kernel
theorem dX12_part_136 : decode cX12_part 136 = .ok (.ifCond .eq 8, 3) := by decide +kernel
theorem dX12_part_139 : decode cX12_part 139 = .ok (.bipush 6, 2) := by decide +kernel
theorem dX12_part_141 : decode cX12_part 141 = .ok (.goto 18, 3) := by decide +kernel
theorem dX12_part_144 : decode cX12_part 144 = .ok (.aload_n 0, 1) := by decide +kernel
theorem dX12_part_145 : decode cX12_part 145 = .ok (.ldc 194, 2) := by decide +kernel
theorem dX12_part_147 : decode cX12_part 147 = .ok (.invokevirtual 102, 3) := by decide +kernel
theorem dX12_part_150 : decode cX12_part 150 = .ok (.ifCond .eq 8, 3) := by decide +kernel
theorem dX12_part_153 : decode cX12_part 153 = .ok (.bipush 7, 2) := by decide +kernel
theorem dX12_part_155 : decode cX12_part 155 = .ok (.goto 4, 3) := by decide +kernel
theorem dX12_part_158 : decode cX12_part 158 = .ok (.iconst (-1), 1) := by decide +kernel
theorem dX12_part_159 : decode cX12_part 159 = .ok (.istore_n 1, 1) := by decide +kernel
theorem dX12_part_160 : decode cX12_part 160 = .ok (.iload_n 1, 1) := by decide +kernel
theorem dX12_part_161 : decode cX12_part 161 = .ok (.iconst (-1), 1) := by decide +kernel
theorem dX12_part_162 : decode cX12_part 162 = .ok (.if_icmp .ne 13, 3) := by decide +kernel
theorem dX12_part_165 : decode cX12_part 165 = .ok (.aload_n 0, 1) := by decide +kernel
theorem dX12_part_166 : decode cX12_part 166 = .ok (.aload_n 0, 1) := by decide +kernel
theorem dX12_part_167 : decode cX12_part 167 = .ok (.getfield 72, 3) := by decide +kernel
theorem dX12_part_170 : decode cX12_part 170 = .ok (.invokevirtual 98, 3) := by decide +kernel
theorem dX12_part_173 : decode cX12_part 173 = .ok (.iconst 0, 1) := by decide +kernel
theorem dX12_part_174 : decode cX12_part 174 = .ok (.ireturn, 1) := by decide +kernel
theorem dX12_part_175 : decode cX12_part 175 = .ok (.aload_n 0, 1) := by decide +kernel
theorem dX12_part_176 : decode cX12_part 176 = .ok (.getfield 32, 3) := by decide +kernel
theorem dX12_part_179 : decode cX12_part 179 = .ok (.iload_n 1, 1) := by decide +kernel
theorem dX12_part_180 : decode cX12_part 180 = .ok (.iaload, 1) := by decide +kernel
theorem dX12_part_181 : decode cX12_part 181 = .ok (.ireturn, 1) := by decide +kernel
theorem dX12_sum_0 : decode cX12_sum 0 = .ok (.aload_n 0, 1) := by decide +kernel
theorem dX12_sum_1 : decode cX12_sum 1 = .ok (.invokevirtual 196, 3) := by decide +kernel
theorem dX12_sum_4 : decode cX12_sum 4 = .ok (.istore_n 1, 1) := by decide +kernel
theorem dX12_sum_5 : decode cX12_sum 5 = .ok (.aload_n 0, 1) := by decide +kernel
theorem dX12_sum_6 : decode cX12_sum 6 = .ok (.getfield 28, 3) := by decide +kernel
theorem dX12_sum_9 : decode cX12_sum 9 = .ok (.iconst (-1), 1) := by decide +kernel
theorem dX12_sum_10 : decode cX12_sum 10 = .ok (.if_icmp .ne 32, 3) := by decide +kernel
theorem dX12_sum_13 : decode cX12_sum 13 = .ok (.aload_n 0, 1) := by decide +kernel
theorem dX12_sum_14 : decode cX12_sum 14 = .ok (.bipush 43, 2) := by decide +kernel
theorem dX12_sum_16 : decode cX12_sum 16 = .ok (.invokevirtual 170, 3) := by decide +kernel
theorem dX12_sum_19 : decode cX12_sum 19 = .ok (.ifCond .eq 23, 3) := by decide +kernel
theorem dX12_sum_22 : decode cX12_sum 22 = .ok (.aload_n 0, 1) := by decide +kernel
theorem dX12_sum_23 : decode cX12_sum 23 = .ok (.dup, 1) := by decide +kernel
theorem dX12_sum_24 : decode cX12_sum 24 = .ok (.getfield 72, 3) := by decide +kernel
theorem dX12_sum_27 : decode cX12_sum 27 = .ok (.iconst 1, 1) := by decide +kernel
theorem dX12_sum_28 : decode cX12_sum 28 = .ok (.iadd, 1) := by decide +kernel
theorem dX12_sum_29 : decode cX12_sum 29 = .ok (.putfield 72, 3) := by decide +kernel
theorem dX12_sum_32 : decode cX12_sum 32 = .ok (.iload_n 1, 1) := by decide +kernel
theorem dX12_sum_33 : decode cX12_sum 33 = .ok (.aload_n 0, 1) := by decide +kernel
theorem dX12_sum_34 : decode cX12_sum 34 = .ok (.invokevirtual 196, 3) := by decide +kernel
theorem dX12_sum_37 : decode cX12_sum 37 = .ok (.iadd, 1) := by decide +kernel
theorem dX12_sum_38 : decode cX12_sum 38 = .ok (.istore_n 1, 1) := by decide +kernel
theorem dX12_sum_39 : decode cX12_sum 39 = .ok (.goto (-34), 3) := by decide +kernel
theorem dX12_sum_42 : decode cX12_sum 42 = .ok (.iload_n 1, 1) := by decide +kernel
theorem dX12_sum_43 : decode cX12_sum 43 = .ok (.ireturn, 1) := by decide +kernel
theorem dX12_plain_0 : decode cX12_plain 0 = .ok (.aload_n 0, 1) := by decide +kernel
theorem dX12_plain_1 : decode cX12_plain 1 = .ok (.ldc 198, 2) := by decide +kernel
theorem dX12_plain_3 : decode cX12_plain 3 = .ok (.invokevirtual 102, 3) := by decide +kernel
theorem dX12_plain_6 : decode cX12_plain 6 = .ok (.ifCond .eq 8, 3) := by decide +kernel
theorem dX12_plain_9 : decode cX12_plain 9 = .ok (.aload_n 0, 1) := by decide +kernel
theorem dX12_plain_10 : decode cX12_plain 10 = .ok (.getfield 200, 3) := by decide +kernel
theorem dX12_plain_13 : decode cX12_plain 13 = .ok (.ireturn, 1) := by decide +kernel
theorem dX12_plain_14 : decode cX12_plain 14 = .ok (.aload_n 0, 1) := by decide +kernel
theorem dX12_plain_15 : decode cX12_plain 15 = .ok (.ldc 204, 2) := by decide +kernel
theorem dX12_plain_17 : decode cX12_plain 17 = .ok (.invokevirtual 102, 3) := by decide +kernel
theorem dX12_plain_20 : decode cX12_plain 20 = .ok (.ifCond .eq 8, 3) := by decide +kernel
theorem dX12_plain_23 : decode cX12_plain 23 = .ok (.aload_n 0, 1) := by decide +kernel
theorem dX12_plain_24 : decode cX12_plain 24 = .ok (.getfield 206, 3) := by decide +kernel
theorem dX12_plain_27 : decode cX12_plain 27 = .ok (.ireturn, 1) := by decide +kernel
theorem dX12_plain_28 : decode cX12_plain 28 = .ok (.aload_n 0, 1) := by decide +kernel
theorem dX12_plain_29 : decode cX12_plain 29 = .ok (.invokevirtual 209, 3) := by decide +kernel
theorem dX12_plain_32 : decode cX12_plain 32 = .ok (.istore_n 1, 1) := by decide +kernel
theorem dX12_plain_33 : decode cX12_plain 33 = .ok (.aload_n 0, 1) := by decide +kernel
theorem dX12_plain_34 : decode cX12_plain 34 = .ok (.getfield 28, 3) := by decide +kernel
theorem dX12_plain_37 : decode cX12_plain 37 = .ok (.iconst (-1), 1) := by decide +kernel
theorem dX12_plain_38 : decode cX12_plain 38 = .ok (.if_icmp .eq 5, 3) := by decide +kernel
theorem dX12_plain_41 : decode cX12_plain 41 = .ok (.iconst 0, 1) := by decide +kernel
theorem dX12_plain_42 : decode cX12_plain 42 = .ok (.ireturn, 1) := by decide +kernel
theorem dX12_plain_43 : decode cX12_plain 43 = .ok (.aload_n 0, 1) := by decide +kernel
theorem dX12_plain_44 : decode cX12_plain 44 = .ok (.bipush 60, 2) := by decide +kernel
theorem dX12_plain_46 : decode cX12_plain 46 = .ok (.invokevirtual 170, 3) := by decide +kernel
theorem dX12_plain_49 : decode cX12_plain 49 = .ok (.istore_n 2, 1) := by decide +kernel
theorem dX12_plain_50 : decode cX12_plain 50 = .ok (.iload_n 2, 1) := by decide +kernel
theorem dX12_plain_51 : decode cX12_plain 51 = .ok (.ifCond .ne 22, 3) := by decide +kernel
theorem dX12_plain_54 : decode cX12_plain 54 = .ok (.aload_n 0, 1) := by decide +kernel
theorem dX12_plain_55 : decode cX12_plain 55 = .ok (.bipush 62, 2) := by decide +kernel
theorem dX12_plain_57 : decode cX12_plain 57 = .ok (.invokevirtual 170, 3) := by decide +kernel
theorem dX12_plain_60 : decode cX12_plain 60 = .ok (.ifCond .ne 13, 3) := by decide +kernel
theorem dX12_plain_63 : decode cX12_plain 63 = .ok (.aload_n 0, 1) := by decide +kernel
theorem dX12_plain_64 : decode cX12_plain 64 = .ok (.aload_n 0, 1) := by decide +kernel
theorem dX12_plain_65 : decode cX12_plain 65 = .ok (.getfield 72, 3) := by decide +kernel
theorem dX12_plain_68 : decode cX12_plain 68 = .ok (.invokevirtual 98, 3) := by decide +kernel
theorem dX12_plain_71 : decode cX12_plain 71 = .ok (.iconst 0, 1) := by decide +kernel
theorem dX12_plain_72 : decode cX12_plain 72 = .ok (.ireturn, 1) := by decide +kernel
theorem dX12_plain_73 : decode cX12_plain 73 = .ok (.aload_n 0, 1) := by decide +kernel
theorem dX12_plain_74 : decode cX12_plain 74 = .ok (.dup, 1) := by decide +kernel
theorem dX12_plain_75 : decode cX12_plain 75 = .ok (.getfield 72, 3) := by decide +kernel
theorem dX12_plain_78 : decode cX12_plain 78 = .ok (.iconst 1, 1) := by decide +kernel
theorem dX12_plain_79 : decode cX12_plain 79 = .ok (.iadd, 1) := by decide +kernel
theorem dX12_plain_80 : decode cX12_plain 80 = .ok (.putfield 72, 3) := by decide +kernel
theorem dX12_plain_83 : decode cX12_plain 83 = .ok (.aload_n 0, 1) := by decide +kernel
theorem dX12_plain_84 : decode cX12_plain 84 = .ok (.invokevirtual 209, 3) := by decide +kernel
theorem dX12_plain_87 : decode cX12_plain 87 = .ok (.istore_n 3, 1) := by decide +kernel
theorem dX12_plain_88 : decode cX12_plain 88 = .ok (.iload_n 2, 1) := by decide +kernel
theorem dX12_plain_89 : decode cX12_plain 89 = .ok (.ifCond .eq 16, 3) := by decide +kernel
theorem dX12_plain_92 : decode cX12_plain 92 = .ok (.iload_n 1, 1) := by decide +kernel
theorem dX12_plain_93 : decode cX12_plain 93 = .ok (.iload_n 3, 1) := by decide +kernel
theorem dX12_plain_94 : decode cX12_plain 94 = .ok (.if_icmp .ge 7, 3) := by decide +kernel
theorem dX12_plain_97 : decode cX12_plain 97 = .ok (.iconst 1, 1) := by decide +kernel
theorem dX12_plain_98 : decode cX12_plain 98 = .ok (.goto 17, 3) := by decide +kernel
theorem dX12_plain_101 : decode cX12_plain 101 = .ok (.iconst 0, 1) := by decide +kernel
theorem dX12_plain_102 : decode cX12_plain 102 = .ok (.goto 13, 3) := by decide +kernel
theorem dX12_plain_105 : decode cX12_plain 105 = .ok (.iload_n 1, 1) := by decide +kernel
theorem dX12_plain_106 : decode cX12_plain 106 = .ok (.iload_n 3, 1) := by decide +kernel
theorem dX12_plain_107 : decode cX12_plain 107 = .ok (.if_icmp .le 7, 3) := by decide +kernel
theorem dX12_plain_110 : decode cX12_plain 110 = .ok (.iconst 1, 1) := by decide +kernel
theorem dX12_plain_111 : decode cX12_plain 111 = .ok (.goto 4, 3) := by decide +kernel
theorem dX12_plain_114 : decode cX12_plain 114 = .ok (.iconst 0, 1) := by decide +kernel
theorem dX12_plain_115 : decode cX12_plain 115 = .ok (.ireturn, 1) := by decide +kernel
theorem dX12_atom_0 : decode cX12_atom 0 = .ok (.aload_n 0, 1) := by decide +kernel
theorem dX12_atom_1 : decode cX12_atom 1 = .ok (.getfield 28, 3) := by decide +kernel
theorem dX12_atom_4 : decode cX12_atom 4 = .ok (.iconst (-1), 1) := by decide +kernel
theorem dX12_atom_5 : decode cX12_atom 5 = .ok (.if_icmp .eq 5, 3) := by decide +kernel
theorem dX12_atom_8 : decode cX12_atom 8 = .ok (.iconst 0, 1) := by decide +kernel
theorem dX12_atom_9 : decode cX12_atom 9 = .ok (.ireturn, 1) := by decide +kernel
theorem dX12_atom_10 : decode cX12_atom 10 = .ok (.aload_n 0, 1) := by decide +kernel
theorem dX12_atom_11 : decode cX12_atom 11 = .ok (.invokevirtual 95, 3) := by decide +kernel
theorem dX12_atom_14 : decode cX12_atom 14 = .ok (.istore_n 1, 1) := by decide +kernel
theorem dX12_atom_15 : decode cX12_atom 15 = .ok (.aload_n 0, 1) := by decide +kernel
theorem dX12_atom_16 : decode cX12_atom 16 = .ok (.ldc 212, 2) := by decide +kernel
theorem dX12_atom_18 : decode cX12_atom 18 = .ok (.invokevirtual 102, 3) := by decide +kernel
theorem dX12_atom_21 : decode cX12_atom 21 = .ok (.istore_n 2, 1) := by decide +kernel
theorem dX12_atom_22 : decode cX12_atom 22 = .ok (.iload_n 2, 1) := by decide +kernel
theorem dX12_atom_23 : decode cX12_atom 23 = .ok (.ifCond .ne 17, 3) := by decide +kernel
theorem dX12_atom_26 : decode cX12_atom 26 = .ok (.aload_n 0, 1) := by decide +kernel
theorem dX12_atom_27 : decode cX12_atom 27 = .ok (.bipush 40, 2) := by decide +kernel
theorem dX12_atom_29 : decode cX12_atom 29 = .ok (.invokevirtual 170, 3) := by decide +kernel
theorem dX12_atom_32 : decode cX12_atom 32 = .ok (.ifCond .ne 8, 3) := by decide +kernel
theorem dX12_atom_35 : decode cX12_atom 35 = .ok (.aload_n 0, 1) := by decide +kernel
theorem dX12_atom_36 : decode cX12_atom 36 = .ok (.invokevirtual 214, 3) := by decide +kernel
theorem dX12_atom_39 : decode cX12_atom 39 = .ok (.ireturn, 1) := by decide +kernel
theorem dX12_atom_40 : decode cX12_atom 40 = .ok (.aload_n 0, 1) := by decide +kernel
theorem dX12_atom_41 : decode cX12_atom 41 = .ok (.getfield 161, 3) := by decide +kernel
theorem dX12_atom_44 : decode cX12_atom 44 = .ok (.bipush 6, 2) := by decide +kernel
theorem dX12_atom_46 : decode cX12_atom 46 = .ok (.if_icmp .ne 10, 3) := by decide +kernel
theorem dX12_atom_49 : decode cX12_atom 49 = .ok (.aload_n 0, 1) := by decide +kernel
theorem dX12_atom_50 : decode cX12_atom 50 = .ok (.iload_n 1, 1) := by decide +kernel
theorem dX12_atom_51 : decode cX12_atom 51 = .ok (.invokevirtual 98, 3) := by decide +kernel
theorem dX12_atom_54 : decode cX12_atom 54 = .ok (.iconst 0, 1) := by decide +kernel
theorem dX12_atom_55 : decode cX12_atom 55 = .ok (.ireturn, 1) := by decide +kernel
theorem dX12_atom_56 : decode cX12_atom 56 = .ok (.aload_n 0, 1) := by decide +kernel
theorem dX12_atom_57 : decode cX12_atom 57 = .ok (.dup, 1) := by decide +kernel
theorem dX12_atom_58 : decode cX12_atom 58 = .ok (.getfield 161, 3) := by decide +kernel
theorem dX12_atom_61 : decode cX12_atom 61 = .ok (.iconst 1, 1) := by decide +kernel
theorem dX12_atom_62 : decode cX12_atom 62 = .ok (.iadd, 1) := by decide +kernel
theorem dX12_atom_63 : decode cX12_atom 63 = .ok (.putfield 161, 3) := by decide +kernel
theorem dX12_atom_66 : decode cX12_atom 66 = .ok (.iconst 0, 1) := by decide +kernel
theorem dX12_atom_67 : decode cX12_atom 67 = .ok (.istore_n 3, 1) := by decide +kernel
theorem dX12_atom_68 : decode cX12_atom 68 = .ok (.iload_n 2, 1) := by decide +kernel
theorem dX12_atom_69 : decode cX12_atom 69 = .ok (.ifCond .eq 19, 3) := by decide +kernel
theorem dX12_atom_72 : decode cX12_atom 72 = .ok (.aload_n 0, 1) := by decide +kernel
theorem dX12_atom_73 : decode cX12_atom 73 = .ok (.invokevirtual 218, 3) := by decide +kernel
theorem dX12_atom_76 : decode cX12_atom 76 = .ok (.ifCond .ne 7, 3) := by decide +kernel
theorem dX12_atom_79 : decode cX12_atom 79 = .ok (.iconst 1, 1) := by decide +kernel
theorem dX12_atom_80 : decode cX12_atom 80 = .ok (.goto 4, 3) := by decide +kernel
theorem dX12_atom_83 : decode cX12_atom 83 = .ok (.iconst 0, 1) := by decide +kernel
theorem dX12_atom_84 : decode cX12_atom 84 = .ok (.istore_n 3, 1) := by decide +kernel
theorem dX12_atom_85 : decode cX12_atom 85 = .ok (.goto 53, 3) := by decide +kernel
theorem dX12_atom_88 : decode cX12_atom 88 = .ok (.aload_n 0, 1) := by decide +kernel
theorem dX12_atom_89 : decode cX12_atom 89 = .ok (.dup, 1) := by decide +kernel
theorem dX12_atom_90 : decode cX12_atom 90 = .ok (.getfield 72, 3) := by decide +kernel
theorem dX12_atom_93 : decode cX12_atom 93 = .ok (.iconst 1, 1) := by decide +kernel
theorem dX12_atom_94 : decode cX12_atom 94 = .ok (.iadd, 1) := by decide +kernel
theorem dX12_atom_95 : decode cX12_atom 95 = .ok (.putfield 72, 3) := by decide +kernel
theorem dX12_atom_98 : decode cX12_atom 98 = .ok (.aload_n 0, 1) := by decide +kernel
theorem dX12_atom_99 : decode cX12_atom 99 = .ok (.invokevirtual 221, 3) := by decide +kernel
theorem dX12_atom_102 : decode cX12_atom 102 = .ok (.istore_n 3, 1) := by decide +kernel
theorem dX12_atom_103 : decode cX12_atom 103 = .ok (.aload_n 0, 1) := by decide +kernel
theorem dX12_atom_104 : decode cX12_atom 104 = .ok (.getfield 28, 3) := by decide +kernel
theorem dX12_atom_107 : decode cX12_atom 107 = .ok (.iconst (-1), 1) := by decide +kernel
theorem dX12_atom_108 : decode cX12_atom 108 = .ok (.if_icmp .ne 20, 3) := by decide +kernel
theorem dX12_atom_111 : decode cX12_atom 111 = .ok (.aload_n 0, 1) := by decide +kernel
theorem dX12_atom_112 : decode cX12_atom 112 = .ok (.bipush 41, 2) := by decide +kernel
theorem dX12_atom_114 : decode cX12_atom 114 = .ok (.invokevirtual 170, 3) := by decide +kernel
theorem dX12_atom_117 : decode cX12_atom 117 = .ok (.ifCond .ne 11, 3) := by decide +kernel
theorem dX12_atom_120 : decode cX12_atom 120 = .ok (.aload_n 0, 1) := by decide +kernel
theorem dX12_atom_121 : decode cX12_atom 121 = .ok (.aload_n 0, 1) := by decide +kernel
theorem dX12_atom_122 : decode cX12_atom 122 = .ok (.getfield 72, 3) := by decide +kernel
theorem dX12_atom_125 : decode cX12_atom 125 = .ok (.invokevirtual 98, 3) := by decide +kernel
theorem dX12_atom_128 : decode cX12_atom 128 = .ok (.aload_n 0, 1) := by decide +kernel
theorem dX12_atom_129 : decode cX12_atom 129 = .ok (.dup, 1) := by decide +kernel
theorem dX12_atom_130 : decode cX12_atom 130 = .ok (.getfield 72, 3) := by decide +kernel
theorem dX12_atom_133 : decode cX12_atom 133 = .ok (.iconst 1, 1) := by decide +kernel
theorem dX12_atom_134 : decode cX12_atom 134 = .ok (.iadd, 1) := by decide +kernel
theorem dX12_atom_135 : decode cX12_atom 135 = .ok (.putfield 72, 3) := by decide +kernel
theorem dX12_atom_138 : decode cX12_atom 138 = .ok (.aload_n 0, 1) := by decide +kernel
theorem dX12_atom_139 : decode cX12_atom 139 = .ok (.dup, 1) := by decide +kernel
theorem dX12_atom_140 : decode cX12_atom 140 = .ok (.getfield 161, 3) := by decide +kernel
theorem dX12_atom_143 : decode cX12_atom 143 = .ok (.iconst 1, 1) := by decide +kernel
theorem dX12_atom_144 : decode cX12_atom 144 = .ok (.isub, 1) := by decide +kernel
theorem dX12_atom_145 : decode cX12_atom 145 = .ok (.putfield 161, 3) := by decide +kernel
theorem dX12_atom_148 : decode cX12_atom 148 = .ok (.iload_n 3, 1) := by decide +kernel
theorem dX12_atom_149 : decode cX12_atom 149 = .ok (.ireturn, 1) := by decide +kernel
theorem dX12_every_0 : decode cX12_every 0 = .ok (.aload_n 0, 1) := by decide +kernel
theorem dX12_every_1 : decode cX12_every 1 = .ok (.invokevirtual 218, 3) := by decide +kernel
theorem dX12_every_4 : decode cX12_every 4 = .ok (.istore_n 1, 1) := by decide +kernel
theorem dX12_every_5 : decode cX12_every 5 = .ok (.aload_n 0, 1) := by decide +kernel
theorem dX12_every_6 : decode cX12_every 6 = .ok (.getfield 28, 3) := by decide +kernel
theorem dX12_every_9 : decode cX12_every 9 = .ok (.iconst (-1), 1) := by decide +kernel
theorem dX12_every_10 : decode cX12_every 10 = .ok (.if_icmp .ne 34, 3) := by decide +kernel
theorem dX12_every_13 : decode cX12_every 13 = .ok (.aload_n 0, 1) := by decide +kernel
theorem dX12_every_14 : decode cX12_every 14 = .ok (.ldc 224, 2) := by decide +kernel
theorem dX12_every_16 : decode cX12_every 16 = .ok (.invokevirtual 102, 3) := by decide +kernel
theorem dX12_every_19 : decode cX12_every 19 = .ok (.ifCond .eq 25, 3) := by decide +kernel
theorem dX12_every_22 : decode cX12_every 22 = .ok (.aload_n 0, 1) := by decide +kernel
theorem dX12_every_23 : decode cX12_every 23 = .ok (.invokevirtual 218, 3) := by decide +kernel
theorem dX12_every_26 : decode cX12_every 26 = .ok (.istore_n 2, 1) := by decide +kernel
theorem dX12_every_27 : decode cX12_every 27 = .ok (.iload_n 1, 1) := by decide +kernel
theorem dX12_every_28 : decode cX12_every 28 = .ok (.ifCond .eq 11, 3) := by decide +kernel
theorem dX12_every_31 : decode cX12_every 31 = .ok (.iload_n 2, 1) := by decide +kernel
theorem dX12_every_32 : decode cX12_every 32 = .ok (.ifCond .eq 7, 3) := by decide +kernel
theorem dX12_every_35 : decode cX12_every 35 = .ok (.iconst 1, 1) := by decide +kernel
theorem dX12_every_36 : decode cX12_every 36 = .ok (.goto 4, 3) := by decide +kernel
theorem dX12_every_39 : decode cX12_every 39 = .ok (.iconst 0, 1) := by decide +kernel
theorem dX12_every_40 : decode cX12_every 40 = .ok (.istore_n 1, 1) := by decide +kernel
theorem dX12_every_41 : decode cX12_every 41 = .ok (.goto (-36), 3) := by decide +kernel
theorem dX12_every_44 : decode cX12_every 44 = .ok (.iload_n 1, 1) := by decide +kernel
theorem dX12_every_45 : decode cX12_every 45 = .ok (.ireturn, 1) := by decide +kernel
theorem dX12_some_0 : decode cX12_some 0 = .ok (.aload_n 0, 1) := by decide +kernel
theorem dX12_some_1 : decode cX12_some 1 = .ok (.invokevirtual 226, 3) := by decide +kernel
theorem dX12_some_4 : decode cX12_some 4 = .ok (.istore_n 1, 1) := by decide +kernel
theorem dX12_some_5 : decode cX12_some 5 = .ok (.aload_n 0, 1) := by decide +kernel
theorem dX12_some_6 : decode cX12_some 6 = .ok (.getfield 28, 3) := by decide +kernel
theorem dX12_some_9 : decode cX12_some 9 = .ok (.iconst (-1), 1) := by decide +kernel
theorem dX12_some_10 : decode cX12_some 10 = .ok (.if_icmp .ne 34, 3) := by decide +kernel
theorem dX12_some_13 : decode cX12_some 13 = .ok (.aload_n 0, 1) := by decide +kernel
theorem dX12_some_14 : decode cX12_some 14 = .ok (.ldc 229, 2) := by decide +kernel
theorem dX12_some_16 : decode cX12_some 16 = .ok (.invokevirtual 102, 3) := by decide +kernel
theorem dX12_some_19 : decode cX12_some 19 = .ok (.ifCond .eq 25, 3) := by decide +kernel
theorem dX12_some_22 : decode cX12_some 22 = .ok (.aload_n 0, 1) := by decide +kernel
theorem dX12_some_23 : decode cX12_some 23 = .ok (.invokevirtual 226, 3) := by decide +kernel
theorem dX12_some_26 : decode cX12_some 26 = .ok (.istore_n 2, 1) := by decide +kernel
theorem dX12_some_27 : decode cX12_some 27 = .ok (.iload_n 1, 1) := by decide +kernel
theorem dX12_some_28 : decode cX12_some 28 = .ok (.ifCond .ne 7, 3) := by decide +kernel
theorem dX12_some_31 : decode cX12_some 31 = .ok (.iload_n 2, 1) := by decide +kernel
theorem dX12_some_32 : decode cX12_some 32 = .ok (.ifCond .eq 7, 3) := by decide +kernel
theorem dX12_some_35 : decode cX12_some 35 = .ok (.iconst 1, 1) := by decide +kernel
theorem dX12_some_36 : decode cX12_some 36 = .ok (.goto 4, 3) := by decide +kernel
theorem dX12_some_39 : decode cX12_some 39 = .ok (.iconst 0, 1) := by decide +kernel
theorem dX12_some_40 : decode cX12_some 40 = .ok (.istore_n 1, 1) := by decide +kernel
theorem dX12_some_41 : decode cX12_some 41 = .ok (.goto (-36), 3) := by decide +kernel
theorem dX12_some_44 : decode cX12_some 44 = .ok (.iload_n 1, 1) := by decide +kernel
theorem dX12_some_45 : decode cX12_some 45 = .ok (.ireturn, 1) := by decide +kernel
theorem dX12_lawLine_0 : decode cX12_lawLine 0 = .ok (.aload_n 0, 1) := by decide +kernel
theorem dX12_lawLine_1 : decode cX12_lawLine 1 = .ok (.ldc 231, 2) := by decide +kernel
theorem dX12_lawLine_3 : decode cX12_lawLine 3 = .ok (.invokevirtual 102, 3) := by decide +kernel
theorem dX12_lawLine_6 : decode cX12_lawLine 6 = .ok (.ifCond .eq 7, 3) := by decide +kernel
theorem dX12_lawLine_9 : decode cX12_lawLine 9 = .ok (.iconst 0, 1) := by decide +kernel
theorem dX12_lawLine_10 : decode cX12_lawLine 10 = .ok (.goto 43, 3) := by decide +kernel
theorem dX12_lawLine_13 : decode cX12_lawLine 13 = .ok (.aload_n 0, 1) := by decide +kernel
theorem dX12_lawLine_14 : decode cX12_lawLine 14 = .ok (.ldc 233, 2) := by decide +kernel
theorem dX12_lawLine_16 : decode cX12_lawLine 16 = .ok (.invokevirtual 102, 3) := by decide +kernel
theorem dX12_lawLine_19 : decode cX12_lawLine 19 = .ok (.ifCond .eq 7, 3) := by decide +kernel
theorem dX12_lawLine_22 : decode cX12_lawLine 22 = .ok (.iconst 1, 1) := by decide +kernel
theorem dX12_lawLine_23 : decode cX12_lawLine 23 = .ok (.goto 30, 3) := by decide +kernel
theorem dX12_lawLine_26 : decode cX12_lawLine 26 = .ok (.aload_n 0, 1) := by decide +kernel
theorem dX12_lawLine_27 : decode cX12_lawLine 27 = .ok (.ldc 235, 2) := by decide +kernel
theorem dX12_lawLine_29 : decode cX12_lawLine 29 = .ok (.invokevirtual 102, 3) := by decide +kernel
theorem dX12_lawLine_32 : decode cX12_lawLine 32 = .ok (.ifCond .eq 7, 3) := by decide +kernel
theorem dX12_lawLine_35 : decode cX12_lawLine 35 = .ok (.iconst 2, 1) := by decide +kernel
theorem dX12_lawLine_36 : decode cX12_lawLine 36 = .ok (.goto 17, 3) := by decide +kernel
theorem dX12_lawLine_39 : decode cX12_lawLine 39 = .ok (.aload_n 0, 1) := by decide +kernel
theorem dX12_lawLine_40 : decode cX12_lawLine 40 = .ok (.ldc 237, 2) := by decide +kernel
theorem dX12_lawLine_42 : decode cX12_lawLine 42 = .ok (.invokevirtual 102, 3) := by decide +kernel
theorem dX12_lawLine_45 : decode cX12_lawLine 45 = .ok (.ifCond .eq 7, 3) := by decide +kernel
theorem dX12_lawLine_48 : decode cX12_lawLine 48 = .ok (.iconst 3, 1) := by decide +kernel
theorem dX12_lawLine_49 : decode cX12_lawLine 49 = .ok (.goto 4, 3) := by decide +kernel
theorem dX12_lawLine_52 : decode cX12_lawLine 52 = .ok (.iconst (-1), 1) := by decide +kernel
theorem dX12_lawLine_53 : decode cX12_lawLine 53 = .ok (.istore_n 1, 1) := by decide +kernel
theorem dX12_lawLine_54 : decode cX12_lawLine 54 = .ok (.iload_n 1, 1) := by decide +kernel
theorem dX12_lawLine_55 : decode cX12_lawLine 55 = .ok (.iconst (-1), 1) := by decide +kernel
theorem dX12_lawLine_56 : decode cX12_lawLine 56 = .ok (.if_icmp .ne 12, 3) := by decide +kernel
theorem dX12_lawLine_59 : decode cX12_lawLine 59 = .ok (.aload_n 0, 1) := by decide +kernel
theorem dX12_lawLine_60 : decode cX12_lawLine 60 = .ok (.aload_n 0, 1) := by decide +kernel
theorem dX12_lawLine_61 : decode cX12_lawLine 61 = .ok (.getfield 72, 3) := by decide +kernel
theorem dX12_lawLine_64 : decode cX12_lawLine 64 = .ok (.invokevirtual 98, 3) := by decide +kernel
theorem dX12_lawLine_67 : decode cX12_lawLine 67 = .ok (.return_, 1) := by decide +kernel
theorem dX12_lawLine_68 : decode cX12_lawLine 68 = .ok (.aload_n 0, 1) := by decide +kernel
theorem dX12_lawLine_69 : decode cX12_lawLine 69 = .ok (.iconst 0, 1) := by decide +kernel
theorem dX12_lawLine_70 : decode cX12_lawLine 70 = .ok (.bipush 20, 2) := by decide +kernel
theorem dX12_lawLine_72 : decode cX12_lawLine 72 = .ok (.invokevirtual 105, 3) := by decide +kernel
theorem dX12_lawLine_75 : decode cX12_lawLine 75 = .ok (.istore_n 2, 1) := by decide +kernel
theorem dX12_lawLine_76 : decode cX12_lawLine 76 = .ok (.aload_n 0, 1) := by decide +kernel
theorem dX12_lawLine_77 : decode cX12_lawLine 77 = .ok (.getfield 28, 3) := by decide +kernel
theorem dX12_lawLine_80 : decode cX12_lawLine 80 = .ok (.iconst (-1), 1) := by decide +kernel
theorem dX12_lawLine_81 : decode cX12_lawLine 81 = .ok (.if_icmp .eq 4, 3) := by decide +kernel
theorem dX12_lawLine_84 : decode cX12_lawLine 84 = .ok (.return_, 1) := by decide +kernel
theorem dX12_lawLine_85 : decode cX12_lawLine 85 = .ok (.aload_n 0, 1) := by decide +kernel
theorem dX12_lawLine_86 : decode cX12_lawLine 86 = .ok (.ldc 239, 2) := by decide +kernel
theorem dX12_lawLine_88 : decode cX12_lawLine 88 = .ok (.invokevirtual 102, 3) := by decide +kernel
theorem dX12_lawLine_91 : decode cX12_lawLine 91 = .ok (.ifCond .eq 10, 3) := by decide +kernel
theorem dX12_lawLine_94 : decode cX12_lawLine 94 = .ok (.aload_n 0, 1) := by decide +kernel
theorem dX12_lawLine_95 : decode cX12_lawLine 95 = .ok (.invokevirtual 221, 3) := by decide +kernel
theorem dX12_lawLine_98 : decode cX12_lawLine 98 = .ok (.ifCond .eq 7, 3) := by decide +kernel
theorem dX12_lawLine_101 : decode cX12_lawLine 101 = .ok (.iconst 1, 1) := by decide +kernel
theorem dX12_lawLine_102 : decode cX12_lawLine 102 = .ok (.goto 4, 3) := by decide +kernel
theorem dX12_lawLine_105 : decode cX12_lawLine 105 = .ok (.iconst 0, 1) := by decide +kernel
theorem dX12_lawLine_106 : decode cX12_lawLine 106 = .ok (.istore_n 3, 1) := by decide +kernel
theorem dX12_lawLine_107 : decode cX12_lawLine 107 = .ok (.aload_n 0, 1) := by decide +kernel
theorem dX12_lawLine_108 : decode cX12_lawLine 108 = .ok (.getfield 28, 3) := by decide +kernel
theorem dX12_lawLine_111 : decode cX12_lawLine 111 = .ok (.iconst (-1), 1) := by decide +kernel
theorem dX12_lawLine_112 : decode cX12_lawLine 112 = .ok (.if_icmp .ne 7, 3) := by decide +kernel
theorem dX12_lawLine_115 : decode cX12_lawLine 115 = .ok (.iload_n 3, 1) := by decide +kernel
theorem dX12_lawLine_116 : decode cX12_lawLine 116 = .ok (.ifCond .ne 4, 3) := by decide +kernel
theorem dX12_lawLine_119 : decode cX12_lawLine 119 = .ok (.return_, 1) := by decide +kernel
theorem dX12_lawLine_120 : decode cX12_lawLine 120 = .ok (.aload_n 0, 1) := by decide +kernel
theorem dX12_lawLine_121 : decode cX12_lawLine 121 = .ok (.dup, 1) := by decide +kernel
theorem dX12_lawLine_122 : decode cX12_lawLine 122 = .ok (.getfield 241, 3) := by decide +kernel
theorem dX12_lawLine_125 : decode cX12_lawLine 125 = .ok (.iload_n 1, 1) := by decide +kernel
theorem dX12_lawLine_126 : decode cX12_lawLine 126 = .ok (.ifCond .ne 7, 3) := by decide +kernel
theorem dX12_lawLine_129 : decode cX12_lawLine 129 = .ok (.iload_n 2, 1) := by decide +kernel
theorem dX12_lawLine_130 : decode cX12_lawLine 130 = .ok (.goto 14, 3) := by decide +kernel
theorem dX12_lawLine_133 : decode cX12_lawLine 133 = .ok (.iload_n 1, 1) := by decide +kernel
theorem dX12_lawLine_134 : decode cX12_lawLine 134 = .ok (.iconst 1, 1) := by decide +kernel
theorem dX12_lawLine_135 : decode cX12_lawLine 135 = .ok (.if_icmp .ne 8, 3) := by decide +kernel
theorem dX12_lawLine_138 : decode cX12_lawLine 138 = .ok (.iload_n 2, 1) := by decide +kernel
theorem dX12_lawLine_139 : decode cX12_lawLine 139 = .ok (.ineg, 1) := by decide +kernel
theorem dX12_lawLine_140 : decode cX12_lawLine 140 = .ok (.goto 4, 3) := by decide +kernel
theorem dX12_lawLine_143 : decode cX12_lawLine 143 = .ok (.iconst 0, 1) := by decide +kernel
theorem dX12_lawLine_144 : decode cX12_lawLine 144 = .ok (.iadd, 1) := by decide +kernel
theorem dX12_lawLine_145 : decode cX12_lawLine 145 = .ok (.putfield 241, 3) := by decide +kernel
theorem dX12_lawLine_148 : decode cX12_lawLine 148 = .ok (.aload_n 0, 1) := by decide +kernel
theorem dX12_lawLine_149 : decode cX12_lawLine 149 = .ok (.dup, 1) := by decide +kernel
theorem dX12_lawLine_150 : decode cX12_lawLine 150 = .ok (.getfield 243, 3) := by decide +kernel
theorem dX12_lawLine_153 : decode cX12_lawLine 153 = .ok (.iload_n 1, 1) := by decide +kernel
theorem dX12_lawLine_154 : decode cX12_lawLine 154 = .ok (.iconst 2, 1) := by decide +kernel
theorem dX12_lawLine_155 : decode cX12_lawLine 155 = .ok (.if_icmp .ne 7, 3) := by decide +kernel
theorem dX12_lawLine_158 : decode cX12_lawLine 158 = .ok (.iload_n 2, 1) := by decide +kernel
theorem dX12_lawLine_159 : decode cX12_lawLine 159 = .ok (.goto 4, 3) := by decide +kernel
theorem dX12_lawLine_162 : decode cX12_lawLine 162 = .ok (.iconst 0, 1) := by decide +kernel
theorem dX12_lawLine_163 : decode cX12_lawLine 163 = .ok (.iadd, 1) := by decide +kernel
theorem dX12_lawLine_164 : decode cX12_lawLine 164 = .ok (.putfield 243, 3) := by decide +kernel
theorem dX12_lawLine_167 : decode cX12_lawLine 167 = .ok (.aload_n 0, 1) := by decide +kernel
theorem dX12_lawLine_168 : decode cX12_lawLine 168 = .ok (.dup, 1) := by decide +kernel
theorem dX12_lawLine_169 : decode cX12_lawLine 169 = .ok (.getfield 245, 3) := by decide +kernel
theorem dX12_lawLine_172 : decode cX12_lawLine 172 = .ok (.iload_n 1, 1) := by decide +kernel
theorem dX12_lawLine_173 : decode cX12_lawLine 173 = .ok (.iconst 3, 1) := by decide +kernel
theorem dX12_lawLine_174 : decode cX12_lawLine 174 = .ok (.if_icmp .ne 7, 3) := by decide +kernel
theorem dX12_lawLine_177 : decode cX12_lawLine 177 = .ok (.iload_n 2, 1) := by decide +kernel
theorem dX12_lawLine_178 : decode cX12_lawLine 178 = .ok (.goto 4, 3) := by decide +kernel
theorem dX12_lawLine_181 : decode cX12_lawLine 181 = .ok (.iconst 0, 1) := by decide +kernel
theorem dX12_lawLine_182 : decode cX12_lawLine 182 = .ok (.iadd, 1) := by decide +kernel
theorem dX12_lawLine_183 : decode cX12_lawLine 183 = .ok (.putfield 245, 3) := by decide +kernel
theorem dX12_lawLine_186 : decode cX12_lawLine 186 = .ok (.return_, 1) := by decide +kernel
theorem dX12_law_0 : decode cX12_law 0 = .ok (.aload_n 0, 1) := by decide +kernel
theorem dX12_law_1 : decode cX12_law 1 = .ok (.invokevirtual 177, 3) := by decide +kernel
theorem dX12_law_4 : decode cX12_law 4 = .ok (.aload_n 0, 1) := by decide +kernel
theorem dX12_law_5 : decode cX12_law 5 = .ok (.iconst 1, 1) := by decide +kernel
theorem dX12_law_6 : decode cX12_law 6 = .ok (.invokevirtual 180, 3) := by decide +kernel
theorem dX12_law_9 : decode cX12_law 9 = .ok (.istore_n 1, 1) := by decide +kernel
theorem dX12_law_10 : decode cX12_law 10 = .ok (.aload_n 0, 1) := by decide +kernel
theorem dX12_law_11 : decode cX12_law 11 = .ok (.aload_n 0, 1) := by decide +kernel
theorem dX12_law_12 : decode cX12_law 12 = .ok (.getfield 28, 3) := by decide +kernel
theorem dX12_law_15 : decode cX12_law 15 = .ok (.iconst (-1), 1) := by decide +kernel
theorem dX12_law_16 : decode cX12_law 16 = .ok (.if_icmp .eq 7, 3) := by decide +kernel
theorem dX12_law_19 : decode cX12_law 19 = .ok (.iconst 1, 1) := by decide +kernel
theorem dX12_law_20 : decode cX12_law 20 = .ok (.goto 4, 3) := by decide +kernel
theorem dX12_law_23 : decode cX12_law 23 = .ok (.iconst 0, 1) := by decide +kernel
theorem dX12_law_24 : decode cX12_law 24 = .ok (.putfield 55, 3) := by decide +kernel
theorem dX12_law_27 : decode cX12_law 27 = .ok (.aload_n 0, 1) := by decide +kernel
theorem dX12_law_28 : decode cX12_law 28 = .ok (.getfield 55, 3) := by decide +kernel
theorem dX12_law_31 : decode cX12_law 31 = .ok (.ifCond .le 5, 3) := by decide +kernel
theorem dX12_law_34 : decode cX12_law 34 = .ok (.iconst 0, 1) := by decide +kernel
theorem dX12_law_35 : decode cX12_law 35 = .ok (.ireturn, 1) := by decide +kernel
theorem dX12_law_36 : decode cX12_law 36 = .ok (.aload_n 0, 1) := by decide +kernel
theorem dX12_law_37 : decode cX12_law 37 = .ok (.getfield 7, 3) := by decide +kernel
theorem dX12_law_40 : decode cX12_law 40 = .ok (.iconst 1, 1) := by decide +kernel
theorem dX12_law_41 : decode cX12_law 41 = .ok (.iload_n 1, 1) := by decide +kernel
theorem dX12_law_42 : decode cX12_law 42 = .ok (.iastore, 1) := by decide +kernel
theorem dX12_law_43 : decode cX12_law 43 = .ok (.aload_n 0, 1) := by decide +kernel
theorem dX12_law_44 : decode cX12_law 44 = .ok (.getfield 7, 3) := by decide +kernel
theorem dX12_law_47 : decode cX12_law 47 = .ok (.iconst 2, 1) := by decide +kernel
theorem dX12_law_48 : decode cX12_law 48 = .ok (.aload_n 0, 1) := by decide +kernel
theorem dX12_law_49 : decode cX12_law 49 = .ok (.getfield 75, 3) := by decide +kernel
theorem dX12_law_52 : decode cX12_law 52 = .ok (.iastore, 1) := by decide +kernel
theorem dX12_law_53 : decode cX12_law 53 = .ok (.iconst 0, 1) := by decide +kernel
theorem dX12_law_54 : decode cX12_law 54 = .ok (.istore_n 2, 1) := by decide +kernel
theorem dX12_law_55 : decode cX12_law 55 = .ok (.iload_n 2, 1) := by decide +kernel
theorem dX12_law_56 : decode cX12_law 56 = .ok (.aload_n 0, 1) := by decide +kernel
theorem dX12_law_57 : decode cX12_law 57 = .ok (.getfield 75, 3) := by decide +kernel
theorem dX12_law_60 : decode cX12_law 60 = .ok (.if_icmp .ge 25, 3) := by decide +kernel
theorem dX12_law_63 : decode cX12_law 63 = .ok (.aload_n 0, 1) := by decide +kernel
theorem dX12_law_64 : decode cX12_law 64 = .ok (.getfield 7, 3) := by decide +kernel
theorem dX12_law_67 : decode cX12_law 67 = .ok (.sipush 350, 3) := by decide +kernel
theorem dX12_law_70 : decode cX12_law 70 = .ok (.iload_n 2, 1) := by decide +kernel
theorem dX12_law_71 : decode cX12_law 71 = .ok (.iadd, 1) := by decide +kernel
theorem dX12_law_72 : decode cX12_law 72 = .ok (.aload_n 0, 1) := by decide +kernel
theorem dX12_law_73 : decode cX12_law 73 = .ok (.getfield 25, 3) := by decide +kernel
theorem dX12_law_76 : decode cX12_law 76 = .ok (.iload_n 2, 1) := by decide +kernel
theorem dX12_law_77 : decode cX12_law 77 = .ok (.iaload, 1) := by decide +kernel
theorem dX12_law_78 : decode cX12_law 78 = .ok (.iastore, 1) := by decide +kernel
theorem dX12_law_79 : decode cX12_law 79 = .ok (.iinc 2 1, 3) := by decide +kernel
theorem dX12_law_82 : decode cX12_law 82 = .ok (.goto (-27), 3) := by decide +kernel
theorem dX12_law_85 : decode cX12_law 85 = .ok (.aload_n 0, 1) := by decide +kernel
theorem dX12_law_86 : decode cX12_law 86 = .ok (.iconst 0, 1) := by decide +kernel
theorem dX12_law_87 : decode cX12_law 87 = .ok (.putfield 187, 3) := by decide +kernel
theorem dX12_law_90 : decode cX12_law 90 = .ok (.iload_n 1, 1) := by decide +kernel
theorem dX12_law_91 : decode cX12_law 91 = .ok (.ireturn, 1) := by decide +kernel
theorem dX12_fault_0 : decode cX12_fault 0 = .ok (.aload_n 0, 1) := by decide +kernel
theorem dX12_fault_1 : decode cX12_fault 1 = .ok (.iconst 0, 1) := by decide +kernel
theorem dX12_fault_2 : decode cX12_fault 2 = .ok (.putfield 55, 3) := by decide +kernel
theorem dX12_fault_5 : decode cX12_fault 5 = .ok (.aload_n 0, 1) := by decide +kernel
theorem dX12_fault_6 : decode cX12_fault 6 = .ok (.getfield 28, 3) := by decide +kernel
theorem dX12_fault_9 : decode cX12_fault 9 = .ok (.ireturn, 1) := by decide +kernel
theorem dX12_asks_0 : decode cX12_asks 0 = .ok (.aload_n 0, 1) := by decide +kernel
theorem dX12_asks_1 : decode cX12_asks 1 = .ok (.iconst 0, 1) := by decide +kernel
theorem dX12_asks_2 : decode cX12_asks 2 = .ok (.putfield 241, 3) := by decide +kernel
theorem dX12_asks_5 : decode cX12_asks 5 = .ok (.aload_n 0, 1) := by decide +kernel
theorem dX12_asks_6 : decode cX12_asks 6 = .ok (.iconst 0, 1) := by decide +kernel
theorem dX12_asks_7 : decode cX12_asks 7 = .ok (.putfield 243, 3) := by decide +kernel
theorem dX12_asks_10 : decode cX12_asks 10 = .ok (.aload_n 0, 1) := by decide +kernel
theorem dX12_asks_11 : decode cX12_asks 11 = .ok (.iconst 0, 1) := by decide +kernel
theorem dX12_asks_12 : decode cX12_asks 12 = .ok (.putfield 245, 3) := by decide +kernel
theorem dX12_asks_15 : decode cX12_asks 15 = .ok (.aload_n 0, 1) := by decide +kernel
theorem dX12_asks_16 : decode cX12_asks 16 = .ok (.getfield 7, 3) := by decide +kernel
theorem dX12_asks_19 : decode cX12_asks 19 = .ok (.iconst 1, 1) := by decide +kernel
theorem dX12_asks_20 : decode cX12_asks 20 = .ok (.iaload, 1) := by decide +kernel
theorem dX12_asks_21 : decode cX12_asks 21 = .ok (.iconst 1, 1) := by decide +kernel
theorem dX12_asks_22 : decode cX12_asks 22 = .ok (.if_icmp .ge 4, 3) := by decide +kernel
theorem dX12_asks_25 : decode cX12_asks 25 = .ok (.return_, 1) := by decide +kernel
theorem dX12_asks_26 : decode cX12_asks 26 = .ok (.iconst 0, 1) := by decide +kernel
theorem dX12_asks_27 : decode cX12_asks 27 = .ok (.istore_n 2, 1) := by decide +kernel
theorem dX12_asks_28 : decode cX12_asks 28 = .ok (.iload_n 2, 1) := by decide +kernel
theorem dX12_asks_29 : decode cX12_asks 29 = .ok (.iconst 3, 1) := by decide +kernel
theorem dX12_asks_30 : decode cX12_asks 30 = .ok (.if_icmp .ge 23, 3) := by decide +kernel
theorem dX12_asks_33 : decode cX12_asks 33 = .ok (.aload_n 0, 1) := by decide +kernel
theorem dX12_asks_34 : decode cX12_asks 34 = .ok (.getfield 32, 3) := by decide +kernel
theorem dX12_asks_37 : decode cX12_asks 37 = .ok (.iconst 1, 1) := by decide +kernel
theorem dX12_asks_38 : decode cX12_asks 38 = .ok (.iload_n 2, 1) := by decide +kernel
theorem dX12_asks_39 : decode cX12_asks 39 = .ok (.iadd, 1) := by decide +kernel
theorem dX12_asks_40 : decode cX12_asks 40 = .ok (.aload_n 0, 1) := by decide +kernel
theorem dX12_asks_41 : decode cX12_asks 41 = .ok (.iload_n 1, 1) := by decide +kernel
theorem dX12_asks_42 : decode cX12_asks 42 = .ok (.iload_n 2, 1) := by decide +kernel
theorem dX12_asks_43 : decode cX12_asks 43 = .ok (.invokevirtual 62, 3) := by decide +kernel
theorem dX12_asks_46 : decode cX12_asks 46 = .ok (.iastore, 1) := by decide +kernel
theorem dX12_asks_47 : decode cX12_asks 47 = .ok (.iinc 2 1, 3) := by decide +kernel
theorem dX12_asks_50 : decode cX12_asks 50 = .ok (.goto (-22), 3) := by decide +kernel
theorem dX12_asks_53 : decode cX12_asks 53 = .ok (.aload_n 0, 1) := by decide +kernel
theorem dX12_asks_54 : decode cX12_asks 54 = .ok (.getfield 32, 3) := by decide +kernel
theorem dX12_asks_57 : decode cX12_asks 57 = .ok (.iconst 0, 1) := by decide +kernel
theorem dX12_asks_58 : decode cX12_asks 58 = .ok (.iload_n 1, 1) := by decide +kernel
theorem dX12_asks_59 : decode cX12_asks 59 = .ok (.iastore, 1) := by decide +kernel
theorem dX12_asks_60 : decode cX12_asks 60 = .ok (.aload_n 0, 1) := by decide +kernel
theorem dX12_asks_61 : decode cX12_asks 61 = .ok (.getfield 32, 3) := by decide +kernel
theorem dX12_asks_64 : decode cX12_asks 64 = .ok (.iconst 4, 1) := by decide +kernel
theorem dX12_asks_65 : decode cX12_asks 65 = .ok (.aload_n 0, 1) := by decide +kernel
theorem dX12_asks_66 : decode cX12_asks 66 = .ok (.iload_n 1, 1) := by decide +kernel
theorem dX12_asks_67 : decode cX12_asks 67 = .ok (.iconst 3, 1) := by decide +kernel
theorem dX12_asks_68 : decode cX12_asks 68 = .ok (.invokevirtual 62, 3) := by decide +kernel
theorem dX12_asks_71 : decode cX12_asks 71 = .ok (.invokestatic 247, 3) := by decide +kernel
theorem dX12_asks_74 : decode cX12_asks 74 = .ok (.iastore, 1) := by decide +kernel
theorem dX12_asks_75 : decode cX12_asks 75 = .ok (.aload_n 0, 1) := by decide +kernel
theorem dX12_asks_76 : decode cX12_asks 76 = .ok (.getfield 32, 3) := by decide +kernel
theorem dX12_asks_79 : decode cX12_asks 79 = .ok (.iconst 5, 1) := by decide +kernel
theorem dX12_asks_80 : decode cX12_asks 80 = .ok (.aload_n 0, 1) := by decide +kernel
theorem dX12_asks_81 : decode cX12_asks 81 = .ok (.getfield 7, 3) := by decide +kernel
theorem dX12_asks_84 : decode cX12_asks 84 = .ok (.bipush 62, 2) := by decide +kernel
theorem dX12_asks_86 : decode cX12_asks 86 = .ok (.aload_n 0, 1) := by decide +kernel
theorem dX12_asks_87 : decode cX12_asks 87 = .ok (.iload_n 1, 1) := by decide +kernel
theorem dX12_asks_88 : decode cX12_asks 88 = .ok (.iconst 5, 1) := by decide +kernel
theorem dX12_asks_89 : decode cX12_asks 89 = .ok (.invokevirtual 62, 3) := by decide +kernel
theorem dX12_asks_92 : decode cX12_asks 92 = .ok (.iadd, 1) := by decide +kernel
theorem dX12_asks_93 : decode cX12_asks 93 = .ok (.iaload, 1) := by decide +kernel
theorem dX12_asks_94 : decode cX12_asks 94 = .ok (.iastore, 1) := by decide +kernel
theorem dX12_asks_95 : decode cX12_asks 95 = .ok (.aload_n 0, 1) := by decide +kernel
theorem dX12_asks_96 : decode cX12_asks 96 = .ok (.getfield 32, 3) := by decide +kernel
theorem dX12_asks_99 : decode cX12_asks 99 = .ok (.bipush 6, 2) := by decide +kernel
theorem dX12_asks_101 : decode cX12_asks 101 = .ok (.aload_n 0, 1) := by decide +kernel
theorem dX12_asks_102 : decode cX12_asks 102 = .ok (.getfield 7, 3) := by decide +kernel
theorem dX12_asks_105 : decode cX12_asks 105 = .ok (.bipush 10, 2) := by decide +kernel
theorem dX12_asks_107 : decode cX12_asks 107 = .ok (.iaload, 1) := by decide +kernel
theorem dX12_asks_108 : decode cX12_asks 108 = .ok (.iastore, 1) := by decide +kernel
theorem dX12_asks_109 : decode cX12_asks 109 = .ok (.aload_n 0, 1) := by decide +kernel
theorem dX12_asks_110 : decode cX12_asks 110 = .ok (.getfield 32, 3) := by decide +kernel
theorem dX12_asks_113 : decode cX12_asks 113 = .ok (.bipush 7, 2) := by decide +kernel
theorem dX12_asks_115 : decode cX12_asks 115 = .ok (.aload_n 0, 1) := by decide +kernel
theorem dX12_asks_116 : decode cX12_asks 116 = .ok (.getfield 7, 3) := by decide +kernel
theorem dX12_asks_119 : decode cX12_asks 119 = .ok (.bipush 9, 2) := by decide +kernel
theorem dX12_asks_121 : decode cX12_asks 121 = .ok (.iaload, 1) := by decide +kernel
theorem dX12_asks_122 : decode cX12_asks 122 = .ok (.iastore, 1) := by decide +kernel
theorem dX12_asks_123 : decode cX12_asks 123 = .ok (.aload_n 0, 1) := by decide +kernel
theorem dX12_asks_124 : decode cX12_asks 124 = .ok (.aload_n 0, 1) := by decide +kernel
theorem dX12_asks_125 : decode cX12_asks 125 = .ok (.getfield 7, 3) := by decide +kernel
theorem dX12_asks_128 : decode cX12_asks 128 = .ok (.bipush 9, 2) := by decide +kernel
theorem dX12_asks_130 : decode cX12_asks 130 = .ok (.iaload, 1) := by decide +kernel
theorem dX12_asks_131 : decode cX12_asks 131 = .ok (.bipush 28, 2) := by decide +kernel
theorem dX12_asks_133 : decode cX12_asks 133 = .ok (.irem, 1) := by decide +kernel
theorem dX12_asks_134 : decode cX12_asks 134 = .ok (.bipush 14, 2) := by decide +kernel
theorem dX12_asks_136 : decode cX12_asks 136 = .ok (.if_icmp .ne 7, 3) := by decide +kernel
theorem dX12_asks_139 : decode cX12_asks 139 = .ok (.iconst 1, 1) := by decide +kernel
theorem dX12_asks_140 : decode cX12_asks 140 = .ok (.goto 4, 3) := by decide +kernel
theorem dX12_asks_143 : decode cX12_asks 143 = .ok (.iconst 0, 1) := by decide +kernel
theorem dX12_asks_144 : decode cX12_asks 144 = .ok (.putfield 200, 3) := by decide +kernel
theorem dX12_asks_147 : decode cX12_asks 147 = .ok (.aload_n 0, 1) := by decide +kernel
theorem dX12_asks_148 : decode cX12_asks 148 = .ok (.aload_n 0, 1) := by decide +kernel
theorem dX12_asks_149 : decode cX12_asks 149 = .ok (.iload_n 1, 1) := by decide +kernel
theorem dX12_asks_150 : decode cX12_asks 150 = .ok (.iconst 4, 1) := by decide +kernel
theorem dX12_asks_151 : decode cX12_asks 151 = .ok (.invokevirtual 62, 3) := by decide +kernel
theorem dX12_asks_154 : decode cX12_asks 154 = .ok (.iconst 1, 1) := by decide +kernel
theorem dX12_asks_155 : decode cX12_asks 155 = .ok (.if_icmp .ne 7, 3) := by decide +kernel
theorem dX12_asks_158 : decode cX12_asks 158 = .ok (.iconst 1, 1) := by decide +kernel
theorem dX12_asks_159 : decode cX12_asks 159 = .ok (.goto 4, 3) := by decide +kernel
theorem dX12_asks_162 : decode cX12_asks 162 = .ok (.iconst 0, 1) := by decide +kernel
theorem dX12_asks_163 : decode cX12_asks 163 = .ok (.putfield 206, 3) := by decide +kernel
theorem dX12_asks_166 : decode cX12_asks 166 = .ok (.aload_n 0, 1) := by decide +kernel
theorem dX12_asks_167 : decode cX12_asks 167 = .ok (.getfield 28, 3) := by decide +kernel
theorem dX12_asks_170 : decode cX12_asks 170 = .ok (.istore_n 2, 1) := by decide +kernel
theorem dX12_asks_171 : decode cX12_asks 171 = .ok (.aload_n 0, 1) := by decide +kernel
theorem dX12_asks_172 : decode cX12_asks 172 = .ok (.iconst (-1), 1) := by decide +kernel
theorem dX12_asks_173 : decode cX12_asks 173 = .ok (.putfield 28, 3) := by decide +kernel
theorem dX12_asks_176 : decode cX12_asks 176 = .ok (.aload_n 0, 1) := by decide +kernel
theorem dX12_asks_177 : decode cX12_asks 177 = .ok (.sipush 350, 3) := by decide +kernel
theorem dX12_asks_180 : decode cX12_asks 180 = .ok (.putfield 69, 3) := by decide +kernel
theorem dX12_asks_183 : decode cX12_asks 183 = .ok (.aload_n 0, 1) := by decide +kernel
theorem dX12_asks_184 : decode cX12_asks 184 = .ok (.aload_n 0, 1) := by decide +kernel
theorem dX12_asks_185 : decode cX12_asks 185 = .ok (.getfield 7, 3) := by decide +kernel
theorem dX12_asks_188 : decode cX12_asks 188 = .ok (.iconst 2, 1) := by decide +kernel
theorem dX12_asks_189 : decode cX12_asks 189 = .ok (.iaload, 1) := by decide +kernel
theorem dX12_asks_190 : decode cX12_asks 190 = .ok (.putfield 75, 3) := by decide +kernel
theorem dX12_asks_193 : decode cX12_asks 193 = .ok (.aload_n 0, 1) := by decide +kernel
theorem dX12_asks_194 : decode cX12_asks 194 = .ok (.iconst 0, 1) := by decide +kernel
theorem dX12_asks_195 : decode cX12_asks 195 = .ok (.putfield 72, 3) := by decide +kernel
theorem dX12_asks_198 : decode cX12_asks 198 = .ok (.aload_n 0, 1) := by decide +kernel
theorem dX12_asks_199 : decode cX12_asks 199 = .ok (.iconst 0, 1) := by decide +kernel
theorem dX12_asks_200 : decode cX12_asks 200 = .ok (.putfield 161, 3) := by decide +kernel
theorem dX12_asks_203 : decode cX12_asks 203 = .ok (.aload_n 0, 1) := by decide +kernel
theorem dX12_asks_204 : decode cX12_asks 204 = .ok (.iconst 1, 1) := by decide +kernel
theorem dX12_asks_205 : decode cX12_asks 205 = .ok (.invokevirtual 180, 3) := by decide +kernel
theorem dX12_asks_208 : decode cX12_asks 208 = .ok (.istore_n 3, 1) := by decide +kernel
theorem dX12_asks_209 : decode cX12_asks 209 = .ok (.aload_n 0, 1) := by decide +kernel
theorem dX12_asks_210 : decode cX12_asks 210 = .ok (.iload_n 2, 1) := by decide +kernel
theorem dX12_asks_211 : decode cX12_asks 211 = .ok (.putfield 28, 3) := by decide +kernel
theorem dX12_asks_214 : decode cX12_asks 214 = .ok (.return_, 1) := by decide +kernel
theorem dX12_whiteOf_0 : decode cX12_whiteOf 0 = .ok (.aload_n 0, 1) := by decide +kernel
theorem dX12_whiteOf_1 : decode cX12_whiteOf 1 = .ok (.iload_n 1, 1) := by decide +kernel
theorem dX12_whiteOf_2 : decode cX12_whiteOf 2 = .ok (.invokevirtual 250, 3) := by decide +kernel
theorem dX12_whiteOf_5 : decode cX12_whiteOf 5 = .ok (.iconst 0, 1) := by decide +kernel
theorem dX12_whiteOf_6 : decode cX12_whiteOf 6 = .ok (.bipush 20, 2) := by decide +kernel
theorem dX12_whiteOf_8 : decode cX12_whiteOf 8 = .ok (.bipush 9, 2) := by decide +kernel
theorem dX12_whiteOf_10 : decode cX12_whiteOf 10 = .ok (.aload_n 0, 1) := by decide +kernel
theorem dX12_whiteOf_11 : decode cX12_whiteOf 11 = .ok (.getfield 241, 3) := by decide +kernel
theorem dX12_whiteOf_14 : decode cX12_whiteOf 14 = .ok (.iadd, 1) := by decide +kernel
theorem dX12_whiteOf_15 : decode cX12_whiteOf 15 = .ok (.aload_n 0, 1) := by decide +kernel
theorem dX12_whiteOf_16 : decode cX12_whiteOf 16 = .ok (.iload_n 1, 1) := by decide +kernel
theorem dX12_whiteOf_17 : decode cX12_whiteOf 17 = .ok (.iconst 0, 1) := by decide +kernel
theorem dX12_whiteOf_18 : decode cX12_whiteOf 18 = .ok (.invokevirtual 62, 3) := by decide +kernel
theorem dX12_whiteOf_21 : decode cX12_whiteOf 21 = .ok (.isub, 1) := by decide +kernel
theorem dX12_whiteOf_22 : decode cX12_whiteOf 22 = .ok (.aload_n 0, 1) := by decide +kernel
theorem dX12_whiteOf_23 : decode cX12_whiteOf 23 = .ok (.iload_n 1, 1) := by decide +kernel
theorem dX12_whiteOf_24 : decode cX12_whiteOf 24 = .ok (.iconst 3, 1) := by decide +kernel
theorem dX12_whiteOf_25 : decode cX12_whiteOf 25 = .ok (.invokevirtual 62, 3) := by decide +kernel
theorem dX12_whiteOf_28 : decode cX12_whiteOf 28 = .ok (.invokestatic 247, 3) := by decide +kernel
theorem dX12_whiteOf_31 : decode cX12_whiteOf 31 = .ok (.isub, 1) := by decide +kernel
theorem dX12_whiteOf_32 : decode cX12_whiteOf 32 = .ok (.invokestatic 253, 3) := by decide +kernel
theorem dX12_whiteOf_35 : decode cX12_whiteOf 35 = .ok (.invokestatic 256, 3) := by decide +kernel
theorem dX12_whiteOf_38 : decode cX12_whiteOf 38 = .ok (.ireturn, 1) := by decide +kernel
theorem dX12_lightOf_0 : decode cX12_lightOf 0 = .ok (.aload_n 0, 1) := by decide +kernel
theorem dX12_lightOf_1 : decode cX12_lightOf 1 = .ok (.iload_n 1, 1) := by decide +kernel
theorem dX12_lightOf_2 : decode cX12_lightOf 2 = .ok (.iconst 4, 1) := by decide +kernel
theorem dX12_lightOf_3 : decode cX12_lightOf 3 = .ok (.invokevirtual 62, 3) := by decide +kernel
theorem dX12_lightOf_6 : decode cX12_lightOf 6 = .ok (.iconst 1, 1) := by decide +kernel
theorem dX12_lightOf_7 : decode cX12_lightOf 7 = .ok (.if_icmp .ne 20, 3) := by decide +kernel
theorem dX12_lightOf_10 : decode cX12_lightOf 10 = .ok (.aload_n 0, 1) := by decide +kernel
theorem dX12_lightOf_11 : decode cX12_lightOf 11 = .ok (.iload_n 1, 1) := by decide +kernel
theorem dX12_lightOf_12 : decode cX12_lightOf 12 = .ok (.iconst 2, 1) := by decide +kernel
theorem dX12_lightOf_13 : decode cX12_lightOf 13 = .ok (.invokevirtual 62, 3) := by decide +kernel
theorem dX12_lightOf_16 : decode cX12_lightOf 16 = .ok (.ifCond .ne 11, 3) := by decide +kernel
theorem dX12_lightOf_19 : decode cX12_lightOf 19 = .ok (.aload_n 0, 1) := by decide +kernel
theorem dX12_lightOf_20 : decode cX12_lightOf 20 = .ok (.iload_n 1, 1) := by decide +kernel
theorem dX12_lightOf_21 : decode cX12_lightOf 21 = .ok (.invokevirtual 259, 3) := by decide +kernel
theorem dX12_lightOf_24 : decode cX12_lightOf 24 = .ok (.goto 4, 3) := by decide +kernel
theorem dX12_lightOf_27 : decode cX12_lightOf 27 = .ok (.iconst 0, 1) := by decide +kernel
theorem dX12_lightOf_28 : decode cX12_lightOf 28 = .ok (.ireturn, 1) := by decide +kernel
theorem dX12_lightOfAll_0 : decode cX12_lightOfAll 0 = .ok (.iconst 0, 1) := by decide +kernel
theorem dX12_lightOfAll_1 : decode cX12_lightOfAll 1 = .ok (.istore_n 1, 1) := by decide +kernel
theorem dX12_lightOfAll_2 : decode cX12_lightOfAll 2 = .ok (.iconst 0, 1) := by decide +kernel
theorem dX12_lightOfAll_3 : decode cX12_lightOfAll 3 = .ok (.istore_n 2, 1) := by decide +kernel
theorem dX12_lightOfAll_4 : decode cX12_lightOfAll 4 = .ok (.iload_n 2, 1) := by decide +kernel
theorem dX12_lightOfAll_5 : decode cX12_lightOfAll 5 = .ok (.bipush 8, 2) := by decide +kernel
theorem dX12_lightOfAll_7 : decode cX12_lightOfAll 7 = .ok (.if_icmp .ge 17, 3) := by decide +kernel
theorem dX12_lightOfAll_10 : decode cX12_lightOfAll 10 = .ok (.iload_n 1, 1) := by decide +kernel
theorem dX12_lightOfAll_11 : decode cX12_lightOfAll 11 = .ok (.aload_n 0, 1) := by decide +kernel
theorem dX12_lightOfAll_12 : decode cX12_lightOfAll 12 = .ok (.iload_n 2, 1) := by decide +kernel
theorem dX12_lightOfAll_13 : decode cX12_lightOfAll 13 = .ok (.invokevirtual 262, 3) := by decide +kernel
theorem dX12_lightOfAll_16 : decode cX12_lightOfAll 16 = .ok (.iadd, 1) := by decide +kernel
theorem dX12_lightOfAll_17 : decode cX12_lightOfAll 17 = .ok (.istore_n 1, 1) := by decide +kernel
theorem dX12_lightOfAll_18 : decode cX12_lightOfAll 18 = .ok (.iinc 2 1, 3) := by decide +kernel
theorem dX12_lightOfAll_21 : decode cX12_lightOfAll 21 = .ok (.goto (-17), 3) := by decide +kernel
theorem dX12_lightOfAll_24 : decode cX12_lightOfAll 24 = .ok (.iload_n 1, 1) := by decide +kernel
theorem dX12_lightOfAll_25 : decode cX12_lightOfAll 25 = .ok (.ireturn, 1) := by decide +kernel
theorem dX12_driesBy_0 : decode cX12_driesBy 0 = .ok (.aload_n 0, 1) := by decide +kernel
theorem dX12_driesBy_1 : decode cX12_driesBy 1 = .ok (.iload_n 1, 1) := by decide +kernel
theorem dX12_driesBy_2 : decode cX12_driesBy 2 = .ok (.invokevirtual 250, 3) := by decide +kernel
theorem dX12_driesBy_5 : decode cX12_driesBy 5 = .ok (.iconst 0, 1) := by decide +kernel
theorem dX12_driesBy_6 : decode cX12_driesBy 6 = .ok (.aload_n 0, 1) := by decide +kernel
theorem dX12_driesBy_7 : decode cX12_driesBy 7 = .ok (.getfield 7, 3) := by decide +kernel
theorem dX12_driesBy_10 : decode cX12_driesBy 10 = .ok (.bipush 62, 2) := by decide +kernel
theorem dX12_driesBy_12 : decode cX12_driesBy 12 = .ok (.aload_n 0, 1) := by decide +kernel
theorem dX12_driesBy_13 : decode cX12_driesBy 13 = .ok (.iload_n 1, 1) := by decide +kernel
theorem dX12_driesBy_14 : decode cX12_driesBy 14 = .ok (.iconst 5, 1) := by decide +kernel
theorem dX12_driesBy_15 : decode cX12_driesBy 15 = .ok (.invokevirtual 62, 3) := by decide +kernel
theorem dX12_driesBy_18 : decode cX12_driesBy 18 = .ok (.iadd, 1) := by decide +kernel
theorem dX12_driesBy_19 : decode cX12_driesBy 19 = .ok (.iaload, 1) := by decide +kernel
theorem dX12_driesBy_20 : decode cX12_driesBy 20 = .ok (.aload_n 0, 1) := by decide +kernel
theorem dX12_driesBy_21 : decode cX12_driesBy 21 = .ok (.getfield 243, 3) := by decide +kernel
theorem dX12_driesBy_24 : decode cX12_driesBy 24 = .ok (.iadd, 1) := by decide +kernel
theorem dX12_driesBy_25 : decode cX12_driesBy 25 = .ok (.aload_n 0, 1) := by decide +kernel
theorem dX12_driesBy_26 : decode cX12_driesBy 26 = .ok (.getfield 7, 3) := by decide +kernel
theorem dX12_driesBy_29 : decode cX12_driesBy 29 = .ok (.bipush 10, 2) := by decide +kernel
theorem dX12_driesBy_31 : decode cX12_driesBy 31 = .ok (.iaload, 1) := by decide +kernel
theorem dX12_driesBy_32 : decode cX12_driesBy 32 = .ok (.iconst 3, 1) := by decide +kernel
theorem dX12_driesBy_33 : decode cX12_driesBy 33 = .ok (.idiv, 1) := by decide +kernel
theorem dX12_driesBy_34 : decode cX12_driesBy 34 = .ok (.isub, 1) := by decide +kernel
theorem dX12_driesBy_35 : decode cX12_driesBy 35 = .ok (.invokestatic 256, 3) := by decide +kernel
theorem dX12_driesBy_38 : decode cX12_driesBy 38 = .ok (.ireturn, 1) := by decide +kernel
theorem dX12_draw_0 : decode cX12_draw 0 = .ok (.aload_n 0, 1) := by decide +kernel
theorem dX12_draw_1 : decode cX12_draw 1 = .ok (.getfield 7, 3) := by decide +kernel
theorem dX12_draw_4 : decode cX12_draw 4 = .ok (.bipush 12, 2) := by decide +kernel
theorem dX12_draw_6 : decode cX12_draw 6 = .ok (.ldc_w 265, 3) := by decide +kernel
theorem dX12_draw_9 : decode cX12_draw 9 = .ok (.aload_n 0, 1) := by decide +kernel
theorem dX12_draw_10 : decode cX12_draw 10 = .ok (.getfield 7, 3) := by decide +kernel
theorem dX12_draw_13 : decode cX12_draw 13 = .ok (.bipush 12, 2) := by decide +kernel
theorem dX12_draw_15 : decode cX12_draw 15 = .ok (.iaload, 1) := by decide +kernel
theorem dX12_draw_16 : decode cX12_draw 16 = .ok (.imul, 1) := by decide +kernel
theorem dX12_draw_17 : decode cX12_draw 17 = .ok (.sipush 12345, 3) := by decide +kernel
theorem dX12_draw_20 : decode cX12_draw 20 = .ok (.iadd, 1) := by decide +kernel
theorem dX12_draw_21 : decode cX12_draw 21 = .ok (.iastore, 1) := by decide +kernel
theorem dX12_draw_22 : decode cX12_draw 22 = .ok (.aload_n 0, 1) := by decide +kernel
theorem dX12_draw_23 : decode cX12_draw 23 = .ok (.getfield 7, 3) := by decide +kernel
theorem dX12_draw_26 : decode cX12_draw 26 = .ok (.bipush 12, 2) := by decide +kernel
theorem dX12_draw_28 : decode cX12_draw 28 = .ok (.iaload, 1) := by decide +kernel
theorem dX12_draw_29 : decode cX12_draw 29 = .ok (.bipush 16, 2) := by decide +kernel
theorem dX12_draw_31 : decode cX12_draw 31 = .ok (.iushr, 1) := by decide +kernel
theorem dX12_draw_32 : decode cX12_draw 32 = .ok (.sipush 32767, 3) := by decide +kernel
theorem dX12_draw_35 : decode cX12_draw 35 = .ok (.iand, 1) := by decide +kernel
theorem dX12_draw_36 : decode cX12_draw 36 = .ok (.iload_n 1, 1) := by decide +kernel
theorem dX12_draw_37 : decode cX12_draw 37 = .ok (.irem, 1) := by decide +kernel
theorem dX12_draw_38 : decode cX12_draw 38 = .ok (.ireturn, 1) := by decide +kernel
theorem dX12_dries_0 : decode cX12_dries 0 = .ok (.aload_n 0, 1) := by decide +kernel
theorem dX12_dries_1 : decode cX12_dries 1 = .ok (.iload_n 1, 1) := by decide +kernel
theorem dX12_dries_2 : decode cX12_dries 2 = .ok (.iconst 4, 1) := by decide +kernel
theorem dX12_dries_3 : decode cX12_dries 3 = .ok (.invokevirtual 62, 3) := by decide +kernel
theorem dX12_dries_6 : decode cX12_dries 6 = .ok (.ifCond .ne 5, 3) := by decide +kernel
theorem dX12_dries_9 : decode cX12_dries 9 = .ok (.iconst 0, 1) := by decide +kernel
theorem dX12_dries_10 : decode cX12_dries 10 = .ok (.ireturn, 1) := by decide +kernel
theorem dX12_dries_11 : decode cX12_dries 11 = .ok (.aload_n 0, 1) := by decide +kernel
theorem dX12_dries_12 : decode cX12_dries 12 = .ok (.iload_n 1, 1) := by decide +kernel
theorem dX12_dries_13 : decode cX12_dries 13 = .ok (.iconst 2, 1) := by decide +kernel
theorem dX12_dries_14 : decode cX12_dries 14 = .ok (.invokevirtual 62, 3) := by decide +kernel
theorem dX12_dries_17 : decode cX12_dries 17 = .ok (.ifCond .ne 32, 3) := by decide +kernel
theorem dX12_dries_20 : decode cX12_dries 20 = .ok (.aload_n 0, 1) := by decide +kernel
theorem dX12_dries_21 : decode cX12_dries 21 = .ok (.iload_n 1, 1) := by decide +kernel
theorem dX12_dries_22 : decode cX12_dries 22 = .ok (.invokevirtual 250, 3) := by decide +kernel
theorem dX12_dries_25 : decode cX12_dries 25 = .ok (.aload_n 0, 1) := by decide +kernel
theorem dX12_dries_26 : decode cX12_dries 26 = .ok (.iload_n 1, 1) := by decide +kernel
theorem dX12_dries_27 : decode cX12_dries 27 = .ok (.iconst 0, 1) := by decide +kernel
theorem dX12_dries_28 : decode cX12_dries 28 = .ok (.bipush 9, 2) := by decide +kernel
theorem dX12_dries_30 : decode cX12_dries 30 = .ok (.aload_n 0, 1) := by decide +kernel
theorem dX12_dries_31 : decode cX12_dries 31 = .ok (.iload_n 1, 1) := by decide +kernel
theorem dX12_dries_32 : decode cX12_dries 32 = .ok (.iconst 0, 1) := by decide +kernel
theorem dX12_dries_33 : decode cX12_dries 33 = .ok (.invokevirtual 62, 3) := by decide +kernel
theorem dX12_dries_36 : decode cX12_dries 36 = .ok (.aload_n 0, 1) := by decide +kernel
theorem dX12_dries_37 : decode cX12_dries 37 = .ok (.getfield 245, 3) := by decide +kernel
theorem dX12_dries_40 : decode cX12_dries 40 = .ok (.iadd, 1) := by decide +kernel
theorem dX12_dries_41 : decode cX12_dries 41 = .ok (.invokestatic 253, 3) := by decide +kernel
theorem dX12_dries_44 : decode cX12_dries 44 = .ok (.invokevirtual 51, 3) := by decide +kernel
theorem dX12_dries_47 : decode cX12_dries 47 = .ok (.iconst 0, 1) := by decide +kernel
theorem dX12_dries_48 : decode cX12_dries 48 = .ok (.ireturn, 1) := by decide +kernel
theorem dX12_dries_49 : decode cX12_dries 49 = .ok (.aload_n 0, 1) := by decide +kernel
theorem dX12_dries_50 : decode cX12_dries 50 = .ok (.iload_n 1, 1) := by decide +kernel
theorem dX12_dries_51 : decode cX12_dries 51 = .ok (.iconst 2, 1) := by decide +kernel
theorem dX12_dries_52 : decode cX12_dries 52 = .ok (.iconst 0, 1) := by decide +kernel
theorem dX12_dries_53 : decode cX12_dries 53 = .ok (.aload_n 0, 1) := by decide +kernel
theorem dX12_dries_54 : decode cX12_dries 54 = .ok (.iload_n 1, 1) := by decide +kernel
theorem dX12_dries_55 : decode cX12_dries 55 = .ok (.iconst 2, 1) := by decide +kernel
theorem dX12_dries_56 : decode cX12_dries 56 = .ok (.invokevirtual 62, 3) := by decide +kernel
theorem dX12_dries_59 : decode cX12_dries 59 = .ok (.aload_n 0, 1) := by decide +kernel
theorem dX12_dries_60 : decode cX12_dries 60 = .ok (.iload_n 1, 1) := by decide +kernel
theorem dX12_dries_61 : decode cX12_dries 61 = .ok (.invokevirtual 266, 3) := by decide +kernel
theorem dX12_dries_64 : decode cX12_dries 64 = .ok (.isub, 1) := by decide +kernel
theorem dX12_dries_65 : decode cX12_dries 65 = .ok (.invokestatic 256, 3) := by decide +kernel
theorem dX12_dries_68 : decode cX12_dries 68 = .ok (.invokevirtual 51, 3) := by decide +kernel
theorem dX12_dries_71 : decode cX12_dries 71 = .ok (.aload_n 0, 1) := by decide +kernel
theorem dX12_dries_72 : decode cX12_dries 72 = .ok (.iload_n 1, 1) := by decide +kernel
theorem dX12_dries_73 : decode cX12_dries 73 = .ok (.iconst 2, 1) := by decide +kernel
theorem dX12_dries_74 : decode cX12_dries 74 = .ok (.invokevirtual 62, 3) := by decide +kernel
theorem dX12_dries_77 : decode cX12_dries 77 = .ok (.ifCond .ne 7, 3) := by decide +kernel
theorem dX12_dries_80 : decode cX12_dries 80 = .ok (.iconst 1, 1) := by decide +kernel
theorem dX12_dries_81 : decode cX12_dries 81 = .ok (.goto 4, 3) := by decide +kernel
theorem dX12_dries_84 : decode cX12_dries 84 = .ok (.iconst 0, 1) := by decide +kernel
theorem dX12_dries_85 : decode cX12_dries 85 = .ok (.ireturn, 1) := by decide +kernel
theorem dX12_driesAll_0 : decode cX12_driesAll 0 = .ok (.iconst 0, 1) := by decide +kernel
theorem dX12_driesAll_1 : decode cX12_driesAll 1 = .ok (.istore_n 1, 1) := by decide +kernel
theorem dX12_driesAll_2 : decode cX12_driesAll 2 = .ok (.iconst 0, 1) := by decide +kernel
theorem dX12_driesAll_3 : decode cX12_driesAll 3 = .ok (.istore_n 2, 1) := by decide +kernel
theorem dX12_driesAll_4 : decode cX12_driesAll 4 = .ok (.iload_n 2, 1) := by decide +kernel
theorem dX12_driesAll_5 : decode cX12_driesAll 5 = .ok (.bipush 8, 2) := by decide +kernel
theorem dX12_driesAll_7 : decode cX12_driesAll 7 = .ok (.if_icmp .ge 25, 3) := by decide +kernel
theorem dX12_driesAll_10 : decode cX12_driesAll 10 = .ok (.iload_n 1, 1) := by decide +kernel
theorem dX12_driesAll_11 : decode cX12_driesAll 11 = .ok (.aload_n 0, 1) := by decide +kernel
theorem dX12_driesAll_12 : decode cX12_driesAll 12 = .ok (.iload_n 2, 1) := by decide +kernel
theorem dX12_driesAll_13 : decode cX12_driesAll 13 = .ok (.invokevirtual 269, 3) := by decide +kernel
theorem dX12_driesAll_16 : decode cX12_driesAll 16 = .ok (.ifCond .eq 7, 3) := by decide +kernel
theorem dX12_driesAll_19 : decode cX12_driesAll 19 = .ok (.iconst 1, 1) := by decide +kernel
theorem dX12_driesAll_20 : decode cX12_driesAll 20 = .ok (.goto 4, 3) := by decide +kernel
theorem dX12_driesAll_23 : decode cX12_driesAll 23 = .ok (.iconst 0, 1) := by decide +kernel
theorem dX12_driesAll_24 : decode cX12_driesAll 24 = .ok (.iadd, 1) := by decide +kernel
theorem dX12_driesAll_25 : decode cX12_driesAll 25 = .ok (.istore_n 1, 1) := by decide +kernel
theorem dX12_driesAll_26 : decode cX12_driesAll 26 = .ok (.iinc 2 1, 3) := by decide +kernel
theorem dX12_driesAll_29 : decode cX12_driesAll 29 = .ok (.goto (-25), 3) := by decide +kernel
theorem dX12_driesAll_32 : decode cX12_driesAll 32 = .ok (.iload_n 1, 1) := by decide +kernel
theorem dX12_driesAll_33 : decode cX12_driesAll 33 = .ok (.ireturn, 1) := by decide +kernel
theorem dX12_passes_0 : decode cX12_passes 0 = .ok (.aload_n 0, 1) := by decide +kernel
theorem dX12_passes_1 : decode cX12_passes 1 = .ok (.getfield 7, 3) := by decide +kernel
theorem dX12_passes_4 : decode cX12_passes 4 = .ok (.iconst 5, 1) := by decide +kernel
theorem dX12_passes_5 : decode cX12_passes 5 = .ok (.bipush 99, 2) := by decide +kernel
theorem dX12_passes_7 : decode cX12_passes 7 = .ok (.aload_n 0, 1) := by decide +kernel
theorem dX12_passes_8 : decode cX12_passes 8 = .ok (.getfield 7, 3) := by decide +kernel
theorem dX12_passes_11 : decode cX12_passes 11 = .ok (.iconst 5, 1) := by decide +kernel
theorem dX12_passes_12 : decode cX12_passes 12 = .ok (.iaload, 1) := by decide +kernel
theorem dX12_passes_13 : decode cX12_passes 13 = .ok (.aload_n 0, 1) := by decide +kernel
theorem dX12_passes_14 : decode cX12_passes 14 = .ok (.getfield 7, 3) := by decide +kernel
theorem dX12_passes_17 : decode cX12_passes 17 = .ok (.bipush 6, 2) := by decide +kernel
theorem dX12_passes_19 : decode cX12_passes 19 = .ok (.iaload, 1) := by decide +kernel
theorem dX12_passes_20 : decode cX12_passes 20 = .ok (.iadd, 1) := by decide +kernel
theorem dX12_passes_21 : decode cX12_passes 21 = .ok (.invokestatic 253, 3) := by decide +kernel
theorem dX12_passes_24 : decode cX12_passes 24 = .ok (.iastore, 1) := by decide +kernel
theorem dX12_passes_25 : decode cX12_passes 25 = .ok (.aload_n 0, 1) := by decide +kernel
theorem dX12_passes_26 : decode cX12_passes 26 = .ok (.getfield 7, 3) := by decide +kernel
theorem dX12_passes_29 : decode cX12_passes 29 = .ok (.bipush 9, 2) := by decide +kernel
theorem dX12_passes_31 : decode cX12_passes 31 = .ok (.dup2, 1) := by decide +kernel
theorem dX12_passes_32 : decode cX12_passes 32 = .ok (.iaload, 1) := by decide +kernel
theorem dX12_passes_33 : decode cX12_passes 33 = .ok (.iconst 1, 1) := by decide +kernel
theorem dX12_passes_34 : decode cX12_passes 34 = .ok (.iadd, 1) := by decide +kernel
theorem dX12_passes_35 : decode cX12_passes 35 = .ok (.iastore, 1) := by decide +kernel
theorem dX12_passes_36 : decode cX12_passes 36 = .ok (.return_, 1) := by decide +kernel
theorem dX12_night_0 : decode cX12_night 0 = .ok (.aload_n 0, 1) := by decide +kernel
theorem dX12_night_1 : decode cX12_night 1 = .ok (.getfield 7, 3) := by decide +kernel
theorem dX12_night_4 : decode cX12_night 4 = .ok (.bipush 10, 2) := by decide +kernel
theorem dX12_night_6 : decode cX12_night 6 = .ok (.aload_n 0, 1) := by decide +kernel
theorem dX12_night_7 : decode cX12_night 7 = .ok (.bipush 10, 2) := by decide +kernel
theorem dX12_night_9 : decode cX12_night 9 = .ok (.invokevirtual 272, 3) := by decide +kernel
theorem dX12_night_12 : decode cX12_night 12 = .ok (.iastore, 1) := by decide +kernel
theorem dX12_night_13 : decode cX12_night 13 = .ok (.aload_n 0, 1) := by decide +kernel
theorem dX12_night_14 : decode cX12_night 14 = .ok (.invokevirtual 275, 3) := by decide +kernel
theorem dX12_night_17 : decode cX12_night 17 = .ok (.istore_n 1, 1) := by decide +kernel
theorem dX12_night_18 : decode cX12_night 18 = .ok (.aload_n 0, 1) := by decide +kernel
theorem dX12_night_19 : decode cX12_night 19 = .ok (.bipush 100, 2) := by decide +kernel
theorem dX12_night_21 : decode cX12_night 21 = .ok (.invokevirtual 272, 3) := by decide +kernel
theorem dX12_night_24 : decode cX12_night 24 = .ok (.aload_n 0, 1) := by decide +kernel
theorem dX12_night_25 : decode cX12_night 25 = .ok (.getfield 7, 3) := by decide +kernel
theorem dX12_night_28 : decode cX12_night 28 = .ok (.bipush 7, 2) := by decide +kernel
theorem dX12_night_30 : decode cX12_night 30 = .ok (.iaload, 1) := by decide +kernel
theorem dX12_night_31 : decode cX12_night 31 = .ok (.if_icmp .ge 42, 3) := by decide +kernel
theorem dX12_night_34 : decode cX12_night 34 = .ok (.aload_n 0, 1) := by decide +kernel
theorem dX12_night_35 : decode cX12_night 35 = .ok (.bipush 8, 2) := by decide +kernel
theorem dX12_night_37 : decode cX12_night 37 = .ok (.invokevirtual 272, 3) := by decide +kernel
theorem dX12_night_40 : decode cX12_night 40 = .ok (.istore_n 2, 1) := by decide +kernel
theorem dX12_night_41 : decode cX12_night 41 = .ok (.aload_n 0, 1) := by decide +kernel
theorem dX12_night_42 : decode cX12_night 42 = .ok (.iconst 5, 1) := by decide +kernel
theorem dX12_night_43 : decode cX12_night 43 = .ok (.invokevirtual 272, 3) := by decide +kernel
theorem dX12_night_46 : decode cX12_night 46 = .ok (.istore_n 3, 1) := by decide +kernel
theorem dX12_night_47 : decode cX12_night 47 = .ok (.aload_n 0, 1) := by decide +kernel
theorem dX12_night_48 : decode cX12_night 48 = .ok (.iload_n 2, 1) := by decide +kernel
theorem dX12_night_49 : decode cX12_night 49 = .ok (.iconst 4, 1) := by decide +kernel
theorem dX12_night_50 : decode cX12_night 50 = .ok (.invokevirtual 62, 3) := by decide +kernel
theorem dX12_night_53 : decode cX12_night 53 = .ok (.iconst 1, 1) := by decide +kernel
theorem dX12_night_54 : decode cX12_night 54 = .ok (.if_icmp .ne 19, 3) := by decide +kernel
theorem dX12_night_57 : decode cX12_night 57 = .ok (.aload_n 0, 1) := by decide +kernel
theorem dX12_night_58 : decode cX12_night 58 = .ok (.iload_n 2, 1) := by decide +kernel
theorem dX12_night_59 : decode cX12_night 59 = .ok (.iconst 3, 1) := by decide +kernel
theorem dX12_night_60 : decode cX12_night 60 = .ok (.aload_n 0, 1) := by decide +kernel
theorem dX12_night_61 : decode cX12_night 61 = .ok (.iload_n 2, 1) := by decide +kernel
theorem dX12_night_62 : decode cX12_night 62 = .ok (.iconst 3, 1) := by decide +kernel
theorem dX12_night_63 : decode cX12_night 63 = .ok (.invokevirtual 62, 3) := by decide +kernel
theorem dX12_night_66 : decode cX12_night 66 = .ok (.iconst 1, 1) := by decide +kernel
theorem dX12_night_67 : decode cX12_night 67 = .ok (.iload_n 3, 1) := by decide +kernel
theorem dX12_night_68 : decode cX12_night 68 = .ok (.ishl, 1) := by decide +kernel
theorem dX12_night_69 : decode cX12_night 69 = .ok (.ior, 1) := by decide +kernel
theorem dX12_night_70 : decode cX12_night 70 = .ok (.invokevirtual 51, 3) := by decide +kernel
theorem dX12_night_73 : decode cX12_night 73 = .ok (.aload_n 0, 1) := by decide +kernel
theorem dX12_night_74 : decode cX12_night 74 = .ok (.bipush 100, 2) := by decide +kernel
theorem dX12_night_76 : decode cX12_night 76 = .ok (.invokevirtual 272, 3) := by decide +kernel
theorem dX12_night_79 : decode cX12_night 79 = .ok (.aload_n 0, 1) := by decide +kernel
theorem dX12_night_80 : decode cX12_night 80 = .ok (.getfield 7, 3) := by decide +kernel
theorem dX12_night_83 : decode cX12_night 83 = .ok (.bipush 8, 2) := by decide +kernel
theorem dX12_night_85 : decode cX12_night 85 = .ok (.iaload, 1) := by decide +kernel
theorem dX12_night_86 : decode cX12_night 86 = .ok (.if_icmp .ge 35, 3) := by decide +kernel
theorem dX12_night_89 : decode cX12_night 89 = .ok (.aload_n 0, 1) := by decide +kernel
theorem dX12_night_90 : decode cX12_night 90 = .ok (.bipush 8, 2) := by decide +kernel
theorem dX12_night_92 : decode cX12_night 92 = .ok (.invokevirtual 272, 3) := by decide +kernel
theorem dX12_night_95 : decode cX12_night 95 = .ok (.istore_n 2, 1) := by decide +kernel
theorem dX12_night_96 : decode cX12_night 96 = .ok (.aload_n 0, 1) := by decide +kernel
theorem dX12_night_97 : decode cX12_night 97 = .ok (.iload_n 2, 1) := by decide +kernel
theorem dX12_night_98 : decode cX12_night 98 = .ok (.iconst 4, 1) := by decide +kernel
theorem dX12_night_99 : decode cX12_night 99 = .ok (.invokevirtual 62, 3) := by decide +kernel
theorem dX12_night_102 : decode cX12_night 102 = .ok (.iconst 1, 1) := by decide +kernel
theorem dX12_night_103 : decode cX12_night 103 = .ok (.if_icmp .ne 18, 3) := by decide +kernel
theorem dX12_night_106 : decode cX12_night 106 = .ok (.aload_n 0, 1) := by decide +kernel
theorem dX12_night_107 : decode cX12_night 107 = .ok (.iload_n 2, 1) := by decide +kernel
theorem dX12_night_108 : decode cX12_night 108 = .ok (.iconst 4, 1) := by decide +kernel
theorem dX12_night_109 : decode cX12_night 109 = .ok (.iconst 0, 1) := by decide +kernel
theorem dX12_night_110 : decode cX12_night 110 = .ok (.invokevirtual 51, 3) := by decide +kernel
theorem dX12_night_113 : decode cX12_night 113 = .ok (.aload_n 0, 1) := by decide +kernel
theorem dX12_night_114 : decode cX12_night 114 = .ok (.iload_n 2, 1) := by decide +kernel
theorem dX12_night_115 : decode cX12_night 115 = .ok (.iconst 0, 1) := by decide +kernel
theorem dX12_night_116 : decode cX12_night 116 = .ok (.bipush 9, 2) := by decide +kernel
theorem dX12_night_118 : decode cX12_night 118 = .ok (.invokevirtual 51, 3) := by decide +kernel
theorem dX12_night_121 : decode cX12_night 121 = .ok (.aload_n 0, 1) := by decide +kernel
theorem dX12_night_122 : decode cX12_night 122 = .ok (.invokevirtual 278, 3) := by decide +kernel
theorem dX12_night_125 : decode cX12_night 125 = .ok (.iload_n 1, 1) := by decide +kernel
theorem dX12_night_126 : decode cX12_night 126 = .ok (.ireturn, 1) := by decide +kernel
theorem dX12_goes_0 : decode cX12_goes 0 = .ok (.iconst 0, 1) := by decide +kernel
theorem dX12_goes_1 : decode cX12_goes 1 = .ok (.istore_n 2, 1) := by decide +kernel
theorem dX12_goes_2 : decode cX12_goes 2 = .ok (.iconst 0, 1) := by decide +kernel
theorem dX12_goes_3 : decode cX12_goes 3 = .ok (.istore_n 3, 1) := by decide +kernel
theorem dX12_goes_4 : decode cX12_goes 4 = .ok (.iload_n 3, 1) := by decide +kernel
theorem dX12_goes_5 : decode cX12_goes 5 = .ok (.iload_n 1, 1) := by decide +kernel
theorem dX12_goes_6 : decode cX12_goes 6 = .ok (.if_icmp .ge 16, 3) := by decide +kernel
theorem dX12_goes_9 : decode cX12_goes 9 = .ok (.iload_n 2, 1) := by decide +kernel
theorem dX12_goes_10 : decode cX12_goes 10 = .ok (.aload_n 0, 1) := by decide +kernel
theorem dX12_goes_11 : decode cX12_goes 11 = .ok (.invokevirtual 281, 3) := by decide +kernel
theorem dX12_goes_14 : decode cX12_goes 14 = .ok (.iadd, 1) := by decide +kernel
theorem dX12_goes_15 : decode cX12_goes 15 = .ok (.istore_n 2, 1) := by decide +kernel
theorem dX12_goes_16 : decode cX12_goes 16 = .ok (.iinc 3 1, 3) := by decide +kernel
theorem dX12_goes_19 : decode cX12_goes 19 = .ok (.goto (-15), 3) := by decide +kernel
theorem dX12_goes_22 : decode cX12_goes 22 = .ok (.iload_n 2, 1) := by decide +kernel
theorem dX12_goes_23 : decode cX12_goes 23 = .ok (.ireturn, 1) := by decide +kernel
theorem dX12_ahead_0 : decode cX12_ahead 0 = .ok (.aload_n 0, 1) := by decide +kernel
theorem dX12_ahead_1 : decode cX12_ahead 1 = .ok (.getfield 7, 3) := by decide +kernel
theorem dX12_ahead_4 : decode cX12_ahead 4 = .ok (.bipush 10, 2) := by decide +kernel
theorem dX12_ahead_6 : decode cX12_ahead 6 = .ok (.iload_n 1, 1) := by decide +kernel
theorem dX12_ahead_7 : decode cX12_ahead 7 = .ok (.iastore, 1) := by decide +kernel
theorem dX12_ahead_8 : decode cX12_ahead 8 = .ok (.aload_n 0, 1) := by decide +kernel
theorem dX12_ahead_9 : decode cX12_ahead 9 = .ok (.invokevirtual 275, 3) := by decide +kernel
theorem dX12_ahead_12 : decode cX12_ahead 12 = .ok (.istore_n 2, 1) := by decide +kernel
theorem dX12_ahead_13 : decode cX12_ahead 13 = .ok (.aload_n 0, 1) := by decide +kernel
theorem dX12_ahead_14 : decode cX12_ahead 14 = .ok (.invokevirtual 278, 3) := by decide +kernel
theorem dX12_ahead_17 : decode cX12_ahead 17 = .ok (.return_, 1) := by decide +kernel
theorem dX12_never_0 : decode cX12_never 0 = .ok (.aload_n 0, 1) := by decide +kernel
theorem dX12_never_1 : decode cX12_never 1 = .ok (.iload_n 1, 1) := by decide +kernel
theorem dX12_never_2 : decode cX12_never 2 = .ok (.iconst 3, 1) := by decide +kernel
theorem dX12_never_3 : decode cX12_never 3 = .ok (.invokevirtual 62, 3) := by decide +kernel
theorem dX12_never_6 : decode cX12_never 6 = .ok (.istore_n 2, 1) := by decide +kernel
theorem dX12_never_7 : decode cX12_never 7 = .ok (.iconst 0, 1) := by decide +kernel
theorem dX12_never_8 : decode cX12_never 8 = .ok (.istore_n 3, 1) := by decide +kernel
theorem dX12_never_9 : decode cX12_never 9 = .ok (.iload_n 3, 1) := by decide +kernel
theorem dX12_never_10 : decode cX12_never 10 = .ok (.aload_n 0, 1) := by decide +kernel
theorem dX12_never_11 : decode cX12_never 11 = .ok (.getfield 7, 3) := by decide +kernel
theorem dX12_never_14 : decode cX12_never 14 = .ok (.iconst 3, 1) := by decide +kernel
theorem dX12_never_15 : decode cX12_never 15 = .ok (.iaload, 1) := by decide +kernel
theorem dX12_never_16 : decode cX12_never 16 = .ok (.if_icmp .ge 20, 3) := by decide +kernel
theorem dX12_never_19 : decode cX12_never 19 = .ok (.iload_n 2, 1) := by decide +kernel
theorem dX12_never_20 : decode cX12_never 20 = .ok (.aload_n 0, 1) := by decide +kernel
theorem dX12_never_21 : decode cX12_never 21 = .ok (.iload_n 3, 1) := by decide +kernel
theorem dX12_never_22 : decode cX12_never 22 = .ok (.iconst 3, 1) := by decide +kernel
theorem dX12_never_23 : decode cX12_never 23 = .ok (.invokevirtual 283, 3) := by decide +kernel
theorem dX12_never_26 : decode cX12_never 26 = .ok (.iconst (-1), 1) := by decide +kernel
theorem dX12_never_27 : decode cX12_never 27 = .ok (.ixor, 1) := by decide +kernel
theorem dX12_never_28 : decode cX12_never 28 = .ok (.iand, 1) := by decide +kernel
theorem dX12_never_29 : decode cX12_never 29 = .ok (.istore_n 2, 1) := by decide +kernel
theorem dX12_never_30 : decode cX12_never 30 = .ok (.iinc 3 1, 3) := by decide +kernel
theorem dX12_never_33 : decode cX12_never 33 = .ok (.goto (-24), 3) := by decide +kernel
theorem dX12_never_36 : decode cX12_never 36 = .ok (.iload_n 2, 1) := by decide +kernel
theorem dX12_never_37 : decode cX12_never 37 = .ok (.ireturn, 1) := by decide +kernel
theorem dX12_share_0 : decode cX12_share 0 = .ok (.aload_n 0, 1) := by decide +kernel
theorem dX12_share_1 : decode cX12_share 1 = .ok (.invokevirtual 286, 3) := by decide +kernel
theorem dX12_share_4 : decode cX12_share 4 = .ok (.istore_n 2, 1) := by decide +kernel
theorem dX12_share_5 : decode cX12_share 5 = .ok (.iload_n 2, 1) := by decide +kernel
theorem dX12_share_6 : decode cX12_share 6 = .ok (.ifCond .ne 7, 3) := by decide +kernel
theorem dX12_share_9 : decode cX12_share 9 = .ok (.iconst 0, 1) := by decide +kernel
theorem dX12_share_10 : decode cX12_share 10 = .ok (.goto 13, 3) := by decide +kernel
theorem dX12_share_13 : decode cX12_share 13 = .ok (.bipush 100, 2) := by decide +kernel
theorem dX12_share_15 : decode cX12_share 15 = .ok (.aload_n 0, 1) := by decide +kernel
theorem dX12_share_16 : decode cX12_share 16 = .ok (.iload_n 1, 1) := by decide +kernel
theorem dX12_share_17 : decode cX12_share 17 = .ok (.invokevirtual 262, 3) := by decide +kernel
theorem dX12_share_20 : decode cX12_share 20 = .ok (.imul, 1) := by decide +kernel
theorem dX12_share_21 : decode cX12_share 21 = .ok (.iload_n 2, 1) := by decide +kernel
theorem dX12_share_22 : decode cX12_share 22 = .ok (.idiv, 1) := by decide +kernel
theorem dX12_share_23 : decode cX12_share 23 = .ok (.ireturn, 1) := by decide +kernel
theorem dX12_part__0 : decode cX12_part_ 0 = .ok (.aload_n 0, 1) := by decide +kernel
theorem dX12_part__1 : decode cX12_part_ 1 = .ok (.iload_n 1, 1) := by decide +kernel
theorem dX12_part__2 : decode cX12_part_ 2 = .ok (.invokestatic 289, 3) := by decide +kernel
theorem dX12_part__5 : decode cX12_part_ 5 = .ok (.ifCond .ne 7, 3) := by decide +kernel
theorem dX12_part__8 : decode cX12_part_ 8 = .ok (.iconst 1, 1) := by decide +kernel
theorem dX12_part__9 : decode cX12_part_ 9 = .ok (.goto 18, 3) := by decide +kernel
theorem dX12_part__12 : decode cX12_part_ 12 = .ok (.iload_n 2, 1) := by decide +kernel
theorem dX12_part__13 : decode cX12_part_ 13 = .ok (.iconst 0, 1) := by decide +kernel
theorem dX12_part__14 : decode cX12_part_ 14 = .ok (.bipush 10, 2) := by decide +kernel
theorem dX12_part__16 : decode cX12_part_ 16 = .ok (.invokestatic 58, 3) := by decide +kernel
theorem dX12_part__19 : decode cX12_part_ 19 = .ok (.ifCond .ne 7, 3) := by decide +kernel
theorem dX12_part__22 : decode cX12_part_ 22 = .ok (.iconst 2, 1) := by decide +kernel
theorem dX12_part__23 : decode cX12_part_ 23 = .ok (.goto 4, 3) := by decide +kernel
theorem dX12_part__26 : decode cX12_part_ 26 = .ok (.iconst 0, 1) := by decide +kernel
theorem dX12_part__27 : decode cX12_part_ 27 = .ok (.putfield 55, 3) := by decide +kernel
theorem dX12_part__30 : decode cX12_part_ 30 = .ok (.aload_n 0, 1) := by decide +kernel
theorem dX12_part__31 : decode cX12_part_ 31 = .ok (.getfield 55, 3) := by decide +kernel
theorem dX12_part__34 : decode cX12_part_ 34 = .ok (.ifCond .le 5, 3) := by decide +kernel
theorem dX12_part__37 : decode cX12_part_ 37 = .ok (.iconst 0, 1) := by decide +kernel
theorem dX12_part__38 : decode cX12_part_ 38 = .ok (.ireturn, 1) := by decide +kernel
theorem dX12_part__39 : decode cX12_part_ 39 = .ok (.iload_n 2, 1) := by decide +kernel
theorem dX12_part__40 : decode cX12_part_ 40 = .ok (.bipush 6, 2) := by decide +kernel
theorem dX12_part__42 : decode cX12_part_ 42 = .ok (.if_icmp .ge 10, 3) := by decide +kernel
theorem dX12_part__45 : decode cX12_part_ 45 = .ok (.aload_n 0, 1) := by decide +kernel
theorem dX12_part__46 : decode cX12_part_ 46 = .ok (.iload_n 1, 1) := by decide +kernel
theorem dX12_part__47 : decode cX12_part_ 47 = .ok (.iload_n 2, 1) := by decide +kernel
theorem dX12_part__48 : decode cX12_part_ 48 = .ok (.invokevirtual 62, 3) := by decide +kernel
theorem dX12_part__51 : decode cX12_part_ 51 = .ok (.ireturn, 1) := by decide +kernel
theorem dX12_part__52 : decode cX12_part_ 52 = .ok (.iload_n 2, 1) := by decide +kernel
theorem dX12_part__53 : decode cX12_part_ 53 = .ok (.bipush 6, 2) := by decide +kernel
theorem dX12_part__55 : decode cX12_part_ 55 = .ok (.if_icmp .ne 9, 3) := by decide +kernel
theorem dX12_part__58 : decode cX12_part_ 58 = .ok (.aload_n 0, 1) := by decide +kernel
theorem dX12_part__59 : decode cX12_part_ 59 = .ok (.iload_n 1, 1) := by decide +kernel
theorem dX12_part__60 : decode cX12_part_ 60 = .ok (.invokevirtual 262, 3) := by decide +kernel
theorem dX12_part__63 : decode cX12_part_ 63 = .ok (.ireturn, 1) := by decide +kernel
theorem dX12_part__64 : decode cX12_part_ 64 = .ok (.iload_n 2, 1) := by decide +kernel
theorem dX12_part__65 : decode cX12_part_ 65 = .ok (.bipush 7, 2) := by decide +kernel
theorem dX12_part__67 : decode cX12_part_ 67 = .ok (.if_icmp .ne 9, 3) := by decide +kernel
theorem dX12_part__70 : decode cX12_part_ 70 = .ok (.aload_n 0, 1) := by decide +kernel
theorem dX12_part__71 : decode cX12_part_ 71 = .ok (.iload_n 1, 1) := by decide +kernel
theorem dX12_part__72 : decode cX12_part_ 72 = .ok (.invokevirtual 259, 3) := by decide +kernel
theorem dX12_part__75 : decode cX12_part_ 75 = .ok (.ireturn, 1) := by decide +kernel
theorem dX12_part__76 : decode cX12_part_ 76 = .ok (.iload_n 2, 1) := by decide +kernel
theorem dX12_part__77 : decode cX12_part_ 77 = .ok (.bipush 8, 2) := by decide +kernel
theorem dX12_part__79 : decode cX12_part_ 79 = .ok (.if_icmp .ne 11, 3) := by decide +kernel
theorem dX12_part__82 : decode cX12_part_ 82 = .ok (.aload_n 0, 1) := by decide +kernel
theorem dX12_part__83 : decode cX12_part_ 83 = .ok (.iload_n 1, 1) := by decide +kernel
theorem dX12_part__84 : decode cX12_part_ 84 = .ok (.invokevirtual 266, 3) := by decide +kernel
theorem dX12_part__87 : decode cX12_part_ 87 = .ok (.goto 22, 3) := by decide +kernel
theorem dX12_part__90 : decode cX12_part_ 90 = .ok (.iload_n 2, 1) := by decide +kernel
theorem dX12_part__91 : decode cX12_part_ 91 = .ok (.bipush 9, 2) := by decide +kernel
theorem dX12_part__93 : decode cX12_part_ 93 = .ok (.if_icmp .ne 11, 3) := by decide +kernel
theorem dX12_part__96 : decode cX12_part_ 96 = .ok (.aload_n 0, 1) := by decide +kernel
theorem dX12_part__97 : decode cX12_part_ 97 = .ok (.iload_n 1, 1) := by decide +kernel
theorem dX12_part__98 : decode cX12_part_ 98 = .ok (.invokevirtual 292, 3) := by decide +kernel
theorem dX12_part__101 : decode cX12_part_ 101 = .ok (.goto 8, 3) := by decide +kernel
theorem dX12_part__104 : decode cX12_part_ 104 = .ok (.aload_n 0, 1) := by decide +kernel
theorem dX12_part__105 : decode cX12_part_ 105 = .ok (.iload_n 1, 1) := by decide +kernel
theorem dX12_part__106 : decode cX12_part_ 106 = .ok (.invokevirtual 295, 3) := by decide +kernel
theorem dX12_part__109 : decode cX12_part_ 109 = .ok (.ireturn, 1) := by decide +kernel
theorem dX12_soap_0 : decode cX12_soap 0 = .ok (.aload_n 0, 1) := by decide +kernel
theorem dX12_soap_1 : decode cX12_soap 1 = .ok (.aload_n 0, 1) := by decide +kernel
theorem dX12_soap_2 : decode cX12_soap 2 = .ok (.iload_n 1, 1) := by decide +kernel
theorem dX12_soap_3 : decode cX12_soap 3 = .ok (.invokevirtual 298, 3) := by decide +kernel
theorem dX12_soap_6 : decode cX12_soap 6 = .ok (.ifCond .ne 7, 3) := by decide +kernel
theorem dX12_soap_9 : decode cX12_soap 9 = .ok (.iconst 1, 1) := by decide +kernel
theorem dX12_soap_10 : decode cX12_soap 10 = .ok (.goto 17, 3) := by decide +kernel
theorem dX12_soap_13 : decode cX12_soap 13 = .ok (.iload_n 2, 1) := by decide +kernel
theorem dX12_soap_14 : decode cX12_soap 14 = .ok (.iconst 0, 1) := by decide +kernel
theorem dX12_soap_15 : decode cX12_soap 15 = .ok (.iconst 3, 1) := by decide +kernel
theorem dX12_soap_16 : decode cX12_soap 16 = .ok (.invokestatic 58, 3) := by decide +kernel
theorem dX12_soap_19 : decode cX12_soap 19 = .ok (.ifCond .ne 7, 3) := by decide +kernel
theorem dX12_soap_22 : decode cX12_soap 22 = .ok (.iconst 2, 1) := by decide +kernel
theorem dX12_soap_23 : decode cX12_soap 23 = .ok (.goto 4, 3) := by decide +kernel
theorem dX12_soap_26 : decode cX12_soap 26 = .ok (.iconst 0, 1) := by decide +kernel
theorem dX12_soap_27 : decode cX12_soap 27 = .ok (.putfield 55, 3) := by decide +kernel
theorem dX12_soap_30 : decode cX12_soap 30 = .ok (.aload_n 0, 1) := by decide +kernel
theorem dX12_soap_31 : decode cX12_soap 31 = .ok (.getfield 55, 3) := by decide +kernel
theorem dX12_soap_34 : decode cX12_soap 34 = .ok (.ifCond .le 7, 3) := by decide +kernel
theorem dX12_soap_37 : decode cX12_soap 37 = .ok (.iconst 0, 1) := by decide +kernel
theorem dX12_soap_38 : decode cX12_soap 38 = .ok (.goto 9, 3) := by decide +kernel
theorem dX12_soap_41 : decode cX12_soap 41 = .ok (.aload_n 0, 1) := by decide +kernel
theorem dX12_soap_42 : decode cX12_soap 42 = .ok (.iload_n 1, 1) := by decide +kernel
theorem dX12_soap_43 : decode cX12_soap 43 = .ok (.iload_n 2, 1) := by decide +kernel
theorem dX12_soap_44 : decode cX12_soap 44 = .ok (.invokevirtual 283, 3) := by decide +kernel
theorem dX12_soap_47 : decode cX12_soap 47 = .ok (.ireturn, 1) := by decide +kernel
theorem dX12_peg_0 : decode cX12_peg 0 = .ok (.aload_n 0, 1) := by decide +kernel
theorem dX12_peg_1 : decode cX12_peg 1 = .ok (.iload_n 1, 1) := by decide +kernel
theorem dX12_peg_2 : decode cX12_peg 2 = .ok (.invokestatic 289, 3) := by decide +kernel
theorem dX12_peg_5 : decode cX12_peg 5 = .ok (.ifCond .ne 7, 3) := by decide +kernel
theorem dX12_peg_8 : decode cX12_peg 8 = .ok (.iconst 1, 1) := by decide +kernel
theorem dX12_peg_9 : decode cX12_peg 9 = .ok (.goto 4, 3) := by decide +kernel
theorem dX12_peg_12 : decode cX12_peg 12 = .ok (.iconst 0, 1) := by decide +kernel
theorem dX12_peg_13 : decode cX12_peg 13 = .ok (.putfield 55, 3) := by decide +kernel
theorem dX12_peg_16 : decode cX12_peg 16 = .ok (.aload_n 0, 1) := by decide +kernel
theorem dX12_peg_17 : decode cX12_peg 17 = .ok (.getfield 55, 3) := by decide +kernel
theorem dX12_peg_20 : decode cX12_peg 20 = .ok (.ifCond .le 5, 3) := by decide +kernel
theorem dX12_peg_23 : decode cX12_peg 23 = .ok (.iconst 0, 1) := by decide +kernel
theorem dX12_peg_24 : decode cX12_peg 24 = .ok (.ireturn, 1) := by decide +kernel
theorem dX12_peg_25 : decode cX12_peg 25 = .ok (.iload_n 2, 1) := by decide +kernel
theorem dX12_peg_26 : decode cX12_peg 26 = .ok (.ifCond .eq 11, 3) := by decide +kernel
theorem dX12_peg_29 : decode cX12_peg 29 = .ok (.aload_n 0, 1) := by decide +kernel
theorem dX12_peg_30 : decode cX12_peg 30 = .ok (.iload_n 1, 1) := by decide +kernel
theorem dX12_peg_31 : decode cX12_peg 31 = .ok (.invokevirtual 301, 3) := by decide +kernel
theorem dX12_peg_34 : decode cX12_peg 34 = .ok (.goto 12, 3) := by decide +kernel
theorem dX12_peg_37 : decode cX12_peg 37 = .ok (.aload_n 0, 1) := by decide +kernel
theorem dX12_peg_38 : decode cX12_peg 38 = .ok (.getfield 7, 3) := by decide +kernel
theorem dX12_peg_41 : decode cX12_peg 41 = .ok (.bipush 62, 2) := by decide +kernel
theorem dX12_peg_43 : decode cX12_peg 43 = .ok (.iload_n 1, 1) := by decide +kernel
theorem dX12_peg_44 : decode cX12_peg 44 = .ok (.iadd, 1) := by decide +kernel
theorem dX12_peg_45 : decode cX12_peg 45 = .ok (.iaload, 1) := by decide +kernel
theorem dX12_peg_46 : decode cX12_peg 46 = .ok (.ireturn, 1) := by decide +kernel
theorem dX12_due_0 : decode cX12_due 0 = .ok (.aload_n 0, 1) := by decide +kernel
theorem dX12_due_1 : decode cX12_due 1 = .ok (.iload_n 1, 1) := by decide +kernel
theorem dX12_due_2 : decode cX12_due 2 = .ok (.iconst 0, 1) := by decide +kernel
theorem dX12_due_3 : decode cX12_due 3 = .ok (.aload_n 0, 1) := by decide +kernel
theorem dX12_due_4 : decode cX12_due 4 = .ok (.getfield 7, 3) := by decide +kernel
theorem dX12_due_7 : decode cX12_due 7 = .ok (.iconst 4, 1) := by decide +kernel
theorem dX12_due_8 : decode cX12_due 8 = .ok (.iaload, 1) := by decide +kernel
theorem dX12_due_9 : decode cX12_due 9 = .ok (.iconst 1, 1) := by decide +kernel
theorem dX12_due_10 : decode cX12_due 10 = .ok (.isub, 1) := by decide +kernel
theorem dX12_due_11 : decode cX12_due 11 = .ok (.invokestatic 58, 3) := by decide +kernel
theorem dX12_due_14 : decode cX12_due 14 = .ok (.ifCond .ne 7, 3) := by decide +kernel
theorem dX12_due_17 : decode cX12_due 17 = .ok (.iconst 1, 1) := by decide +kernel
theorem dX12_due_18 : decode cX12_due 18 = .ok (.goto 4, 3) := by decide +kernel
theorem dX12_due_21 : decode cX12_due 21 = .ok (.iconst 0, 1) := by decide +kernel
theorem dX12_due_22 : decode cX12_due 22 = .ok (.putfield 55, 3) := by decide +kernel
theorem dX12_due_25 : decode cX12_due 25 = .ok (.aload_n 0, 1) := by decide +kernel
theorem dX12_due_26 : decode cX12_due 26 = .ok (.getfield 55, 3) := by decide +kernel
theorem dX12_due_29 : decode cX12_due 29 = .ok (.ifCond .le 5, 3) := by decide +kernel
theorem dX12_due_32 : decode cX12_due 32 = .ok (.iconst 0, 1) := by decide +kernel
theorem dX12_due_33 : decode cX12_due 33 = .ok (.ireturn, 1) := by decide +kernel
theorem dX12_due_34 : decode cX12_due 34 = .ok (.aload_n 0, 1) := by decide +kernel
theorem dX12_due_35 : decode cX12_due 35 = .ok (.getfield 7, 3) := by decide +kernel
theorem dX12_due_38 : decode cX12_due 38 = .ok (.bipush 94, 2) := by decide +kernel
theorem dX12_due_40 : decode cX12_due 40 = .ok (.iconst 2, 1) := by decide +kernel
theorem dX12_due_41 : decode cX12_due 41 = .ok (.iload_n 1, 1) := by decide +kernel
theorem dX12_due_42 : decode cX12_due 42 = .ok (.imul, 1) := by decide +kernel
theorem dX12_due_43 : decode cX12_due 43 = .ok (.iadd, 1) := by decide +kernel
theorem dX12_due_44 : decode cX12_due 44 = .ok (.iload_n 2, 1) := by decide +kernel
theorem dX12_due_45 : decode cX12_due 45 = .ok (.ifCond .eq 7, 3) := by decide +kernel
theorem dX12_due_48 : decode cX12_due 48 = .ok (.iconst 1, 1) := by decide +kernel
theorem dX12_due_49 : decode cX12_due 49 = .ok (.goto 4, 3) := by decide +kernel
theorem dX12_due_52 : decode cX12_due 52 = .ok (.iconst 0, 1) := by decide +kernel
theorem dX12_due_53 : decode cX12_due 53 = .ok (.iadd, 1) := by decide +kernel
theorem dX12_due_54 : decode cX12_due 54 = .ok (.iaload, 1) := by decide +kernel
theorem dX12_due_55 : decode cX12_due 55 = .ok (.ireturn, 1) := by decide +kernel
theorem dX12_remembers_0 : decode cX12_remembers 0 = .ok (.aload_n 0, 1) := by decide +kernel
theorem dX12_remembers_1 : decode cX12_remembers 1 = .ok (.getfield 187, 3) := by decide +kernel
theorem dX12_remembers_4 : decode cX12_remembers 4 = .ok (.bipush 12, 2) := by decide +kernel
theorem dX12_remembers_6 : decode cX12_remembers 6 = .ok (.if_icmp .ne 44, 3) := by decide +kernel
theorem dX12_remembers_9 : decode cX12_remembers 9 = .ok (.iconst 0, 1) := by decide +kernel
theorem dX12_remembers_10 : decode cX12_remembers 10 = .ok (.istore_n 1, 1) := by decide +kernel
theorem dX12_remembers_11 : decode cX12_remembers 11 = .ok (.iload_n 1, 1) := by decide +kernel
theorem dX12_remembers_12 : decode cX12_remembers 12 = .ok (.sipush 3850, 3) := by decide +kernel
theorem dX12_remembers_15 : decode cX12_remembers 15 = .ok (.if_icmp .ge 25, 3) := by decide +kernel
theorem dX12_remembers_18 : decode cX12_remembers 18 = .ok (.aload_n 0, 1) := by decide +kernel
theorem dX12_remembers_19 : decode cX12_remembers 19 = .ok (.getfield 22, 3) := by decide +kernel
theorem dX12_remembers_22 : decode cX12_remembers 22 = .ok (.iload_n 1, 1) := by decide +kernel
theorem dX12_remembers_23 : decode cX12_remembers 23 = .ok (.aload_n 0, 1) := by decide +kernel
theorem dX12_remembers_24 : decode cX12_remembers 24 = .ok (.getfield 22, 3) := by decide +kernel
theorem dX12_remembers_27 : decode cX12_remembers 27 = .ok (.iload_n 1, 1) := by decide +kernel
theorem dX12_remembers_28 : decode cX12_remembers 28 = .ok (.sipush 350, 3) := by decide +kernel
theorem dX12_remembers_31 : decode cX12_remembers 31 = .ok (.iadd, 1) := by decide +kernel
theorem dX12_remembers_32 : decode cX12_remembers 32 = .ok (.iaload, 1) := by decide +kernel
theorem dX12_remembers_33 : decode cX12_remembers 33 = .ok (.iastore, 1) := by decide +kernel
theorem dX12_remembers_34 : decode cX12_remembers 34 = .ok (.iinc 1 1, 3) := by decide +kernel
theorem dX12_remembers_37 : decode cX12_remembers 37 = .ok (.goto (-26), 3) := by decide +kernel
theorem dX12_remembers_40 : decode cX12_remembers 40 = .ok (.aload_n 0, 1) := by decide +kernel
theorem dX12_remembers_41 : decode cX12_remembers 41 = .ok (.dup, 1) := by decide +kernel
theorem dX12_remembers_42 : decode cX12_remembers 42 = .ok (.getfield 187, 3) := by decide +kernel
theorem dX12_remembers_45 : decode cX12_remembers 45 = .ok (.iconst 1, 1) := by decide +kernel
theorem dX12_remembers_46 : decode cX12_remembers 46 = .ok (.isub, 1) := by decide +kernel
theorem dX12_remembers_47 : decode cX12_remembers 47 = .ok (.putfield 187, 3) := by decide +kernel
theorem dX12_remembers_50 : decode cX12_remembers 50 = .ok (.iconst 0, 1) := by decide +kernel
theorem dX12_remembers_51 : decode cX12_remembers 51 = .ok (.istore_n 1, 1) := by decide +kernel
theorem dX12_remembers_52 : decode cX12_remembers 52 = .ok (.iload_n 1, 1) := by decide +kernel
theorem dX12_remembers_53 : decode cX12_remembers 53 = .ok (.sipush 350, 3) := by decide +kernel
theorem dX12_remembers_56 : decode cX12_remembers 56 = .ok (.if_icmp .ge 30, 3) := by decide +kernel
theorem dX12_remembers_59 : decode cX12_remembers 59 = .ok (.aload_n 0, 1) := by decide +kernel
theorem dX12_remembers_60 : decode cX12_remembers 60 = .ok (.getfield 22, 3) := by decide +kernel
theorem dX12_remembers_63 : decode cX12_remembers 63 = .ok (.sipush 350, 3) := by decide +kernel
theorem dX12_remembers_66 : decode cX12_remembers 66 = .ok (.aload_n 0, 1) := by decide +kernel
theorem dX12_remembers_67 : decode cX12_remembers 67 = .ok (.getfield 187, 3) := by decide +kernel
theorem dX12_remembers_70 : decode cX12_remembers 70 = .ok (.imul, 1) := by decide +kernel
theorem dX12_remembers_71 : decode cX12_remembers 71 = .ok (.iload_n 1, 1) := by decide +kernel
theorem dX12_remembers_72 : decode cX12_remembers 72 = .ok (.iadd, 1) := by decide +kernel
theorem dX12_remembers_73 : decode cX12_remembers 73 = .ok (.aload_n 0, 1) := by decide +kernel
theorem dX12_remembers_74 : decode cX12_remembers 74 = .ok (.getfield 7, 3) := by decide +kernel
theorem dX12_remembers_77 : decode cX12_remembers 77 = .ok (.iload_n 1, 1) := by decide +kernel
theorem dX12_remembers_78 : decode cX12_remembers 78 = .ok (.iaload, 1) := by decide +kernel
theorem dX12_remembers_79 : decode cX12_remembers 79 = .ok (.iastore, 1) := by decide +kernel
theorem dX12_remembers_80 : decode cX12_remembers 80 = .ok (.iinc 1 1, 3) := by decide +kernel
theorem dX12_remembers_83 : decode cX12_remembers 83 = .ok (.goto (-31), 3) := by decide +kernel
theorem dX12_remembers_86 : decode cX12_remembers 86 = .ok (.aload_n 0, 1) := by decide +kernel
theorem dX12_remembers_87 : decode cX12_remembers 87 = .ok (.dup, 1) := by decide +kernel
theorem dX12_remembers_88 : decode cX12_remembers 88 = .ok (.getfield 187, 3) := by decide +kernel
theorem dX12_remembers_91 : decode cX12_remembers 91 = .ok (.iconst 1, 1) := by decide +kernel
theorem dX12_remembers_92 : decode cX12_remembers 92 = .ok (.iadd, 1) := by decide +kernel
theorem dX12_remembers_93 : decode cX12_remembers 93 = .ok (.putfield 187, 3) := by decide +kernel
theorem dX12_remembers_96 : decode cX12_remembers 96 = .ok (.return_, 1) := by decide +kernel
theorem dX12_cleans_0 : decode cX12_cleans 0 = .ok (.aload_n 0, 1) := by decide +kernel
theorem dX12_cleans_1 : decode cX12_cleans 1 = .ok (.iload_n 1, 1) := by decide +kernel
theorem dX12_cleans_2 : decode cX12_cleans 2 = .ok (.iconst 0, 1) := by decide +kernel
theorem dX12_cleans_3 : decode cX12_cleans 3 = .ok (.iconst 0, 1) := by decide +kernel
theorem dX12_cleans_4 : decode cX12_cleans 4 = .ok (.aload_n 0, 1) := by decide +kernel
theorem dX12_cleans_5 : decode cX12_cleans 5 = .ok (.iload_n 1, 1) := by decide +kernel
theorem dX12_cleans_6 : decode cX12_cleans 6 = .ok (.iconst 0, 1) := by decide +kernel
theorem dX12_cleans_7 : decode cX12_cleans 7 = .ok (.invokevirtual 62, 3) := by decide +kernel
theorem dX12_cleans_10 : decode cX12_cleans 10 = .ok (.aload_n 0, 1) := by decide +kernel
theorem dX12_cleans_11 : decode cX12_cleans 11 = .ok (.iload_n 2, 1) := by decide +kernel
theorem dX12_cleans_12 : decode cX12_cleans 12 = .ok (.iconst 0, 1) := by decide +kernel
theorem dX12_cleans_13 : decode cX12_cleans 13 = .ok (.invokevirtual 283, 3) := by decide +kernel
theorem dX12_cleans_16 : decode cX12_cleans 16 = .ok (.isub, 1) := by decide +kernel
theorem dX12_cleans_17 : decode cX12_cleans 17 = .ok (.invokestatic 256, 3) := by decide +kernel
theorem dX12_cleans_20 : decode cX12_cleans 20 = .ok (.invokevirtual 51, 3) := by decide +kernel
theorem dX12_cleans_23 : decode cX12_cleans 23 = .ok (.aload_n 0, 1) := by decide +kernel
theorem dX12_cleans_24 : decode cX12_cleans 24 = .ok (.iload_n 1, 1) := by decide +kernel
theorem dX12_cleans_25 : decode cX12_cleans 25 = .ok (.iconst 3, 1) := by decide +kernel
theorem dX12_cleans_26 : decode cX12_cleans 26 = .ok (.aload_n 0, 1) := by decide +kernel
theorem dX12_cleans_27 : decode cX12_cleans 27 = .ok (.iload_n 1, 1) := by decide +kernel
theorem dX12_cleans_28 : decode cX12_cleans 28 = .ok (.iconst 3, 1) := by decide +kernel
theorem dX12_cleans_29 : decode cX12_cleans 29 = .ok (.invokevirtual 62, 3) := by decide +kernel
theorem dX12_cleans_32 : decode cX12_cleans 32 = .ok (.aload_n 0, 1) := by decide +kernel
theorem dX12_cleans_33 : decode cX12_cleans 33 = .ok (.iload_n 2, 1) := by decide +kernel
theorem dX12_cleans_34 : decode cX12_cleans 34 = .ok (.iconst 3, 1) := by decide +kernel
theorem dX12_cleans_35 : decode cX12_cleans 35 = .ok (.invokevirtual 283, 3) := by decide +kernel
theorem dX12_cleans_38 : decode cX12_cleans 38 = .ok (.iconst (-1), 1) := by decide +kernel
theorem dX12_cleans_39 : decode cX12_cleans 39 = .ok (.ixor, 1) := by decide +kernel
theorem dX12_cleans_40 : decode cX12_cleans 40 = .ok (.iand, 1) := by decide +kernel
theorem dX12_cleans_41 : decode cX12_cleans 41 = .ok (.invokevirtual 51, 3) := by decide +kernel
theorem dX12_cleans_44 : decode cX12_cleans 44 = .ok (.aload_n 0, 1) := by decide +kernel
theorem dX12_cleans_45 : decode cX12_cleans 45 = .ok (.iload_n 1, 1) := by decide +kernel
theorem dX12_cleans_46 : decode cX12_cleans 46 = .ok (.iconst 1, 1) := by decide +kernel
theorem dX12_cleans_47 : decode cX12_cleans 47 = .ok (.bipush 9, 2) := by decide +kernel
theorem dX12_cleans_49 : decode cX12_cleans 49 = .ok (.aload_n 0, 1) := by decide +kernel
theorem dX12_cleans_50 : decode cX12_cleans 50 = .ok (.iload_n 1, 1) := by decide +kernel
theorem dX12_cleans_51 : decode cX12_cleans 51 = .ok (.iconst 1, 1) := by decide +kernel
theorem dX12_cleans_52 : decode cX12_cleans 52 = .ok (.invokevirtual 62, 3) := by decide +kernel
theorem dX12_cleans_55 : decode cX12_cleans 55 = .ok (.iconst 1, 1) := by decide +kernel
theorem dX12_cleans_56 : decode cX12_cleans 56 = .ok (.iadd, 1) := by decide +kernel
theorem dX12_cleans_57 : decode cX12_cleans 57 = .ok (.aload_n 0, 1) := by decide +kernel
theorem dX12_cleans_58 : decode cX12_cleans 58 = .ok (.iload_n 2, 1) := by decide +kernel
theorem dX12_cleans_59 : decode cX12_cleans 59 = .ok (.iconst 2, 1) := by decide +kernel
theorem dX12_cleans_60 : decode cX12_cleans 60 = .ok (.invokevirtual 283, 3) := by decide +kernel
theorem dX12_cleans_63 : decode cX12_cleans 63 = .ok (.iadd, 1) := by decide +kernel
theorem dX12_cleans_64 : decode cX12_cleans 64 = .ok (.invokestatic 253, 3) := by decide +kernel
theorem dX12_cleans_67 : decode cX12_cleans 67 = .ok (.invokevirtual 51, 3) := by decide +kernel
theorem dX12_cleans_70 : decode cX12_cleans 70 = .ok (.return_, 1) := by decide +kernel
theorem dX12_wash_0 : decode cX12_wash 0 = .ok (.aload_n 0, 1) := by decide +kernel
theorem dX12_wash_1 : decode cX12_wash 1 = .ok (.iload_n 1, 1) := by decide +kernel
theorem dX12_wash_2 : decode cX12_wash 2 = .ok (.invokestatic 289, 3) := by decide +kernel
theorem dX12_wash_5 : decode cX12_wash 5 = .ok (.ifCond .eq 11, 3) := by decide +kernel
theorem dX12_wash_8 : decode cX12_wash 8 = .ok (.aload_n 0, 1) := by decide +kernel
theorem dX12_wash_9 : decode cX12_wash 9 = .ok (.iload_n 2, 1) := by decide +kernel
theorem dX12_wash_10 : decode cX12_wash 10 = .ok (.invokevirtual 298, 3) := by decide +kernel
theorem dX12_wash_13 : decode cX12_wash 13 = .ok (.ifCond .ne 7, 3) := by decide +kernel
theorem dX12_wash_16 : decode cX12_wash 16 = .ok (.iconst 1, 1) := by decide +kernel
theorem dX12_wash_17 : decode cX12_wash 17 = .ok (.goto 23, 3) := by decide +kernel
theorem dX12_wash_20 : decode cX12_wash 20 = .ok (.aload_n 0, 1) := by decide +kernel
theorem dX12_wash_21 : decode cX12_wash 21 = .ok (.getfield 7, 3) := by decide +kernel
theorem dX12_wash_24 : decode cX12_wash 24 = .ok (.iconst 5, 1) := by decide +kernel
theorem dX12_wash_25 : decode cX12_wash 25 = .ok (.iaload, 1) := by decide +kernel
theorem dX12_wash_26 : decode cX12_wash 26 = .ok (.aload_n 0, 1) := by decide +kernel
theorem dX12_wash_27 : decode cX12_wash 27 = .ok (.iload_n 2, 1) := by decide +kernel
theorem dX12_wash_28 : decode cX12_wash 28 = .ok (.iconst 1, 1) := by decide +kernel
theorem dX12_wash_29 : decode cX12_wash 29 = .ok (.invokevirtual 283, 3) := by decide +kernel
theorem dX12_wash_32 : decode cX12_wash 32 = .ok (.if_icmp .ge 7, 3) := by decide +kernel
theorem dX12_wash_35 : decode cX12_wash 35 = .ok (.iconst 2, 1) := by decide +kernel
theorem dX12_wash_36 : decode cX12_wash 36 = .ok (.goto 4, 3) := by decide +kernel
theorem dX12_wash_39 : decode cX12_wash 39 = .ok (.iconst 0, 1) := by decide +kernel
theorem dX12_wash_40 : decode cX12_wash 40 = .ok (.putfield 55, 3) := by decide +kernel
theorem dX12_wash_43 : decode cX12_wash 43 = .ok (.aload_n 0, 1) := by decide +kernel
theorem dX12_wash_44 : decode cX12_wash 44 = .ok (.getfield 55, 3) := by decide +kernel
theorem dX12_wash_47 : decode cX12_wash 47 = .ok (.ifCond .le 5, 3) := by decide +kernel
theorem dX12_wash_50 : decode cX12_wash 50 = .ok (.iconst 0, 1) := by decide +kernel
theorem dX12_wash_51 : decode cX12_wash 51 = .ok (.ireturn, 1) := by decide +kernel
theorem dX12_wash_52 : decode cX12_wash 52 = .ok (.aload_n 0, 1) := by decide +kernel
theorem dX12_wash_53 : decode cX12_wash 53 = .ok (.invokevirtual 304, 3) := by decide +kernel
theorem dX12_wash_56 : decode cX12_wash 56 = .ok (.aload_n 0, 1) := by decide +kernel
theorem dX12_wash_57 : decode cX12_wash 57 = .ok (.iload_n 1, 1) := by decide +kernel
theorem dX12_wash_58 : decode cX12_wash 58 = .ok (.iconst 3, 1) := by decide +kernel
theorem dX12_wash_59 : decode cX12_wash 59 = .ok (.invokevirtual 62, 3) := by decide +kernel
theorem dX12_wash_62 : decode cX12_wash 62 = .ok (.aload_n 0, 1) := by decide +kernel
theorem dX12_wash_63 : decode cX12_wash 63 = .ok (.iload_n 2, 1) := by decide +kernel
theorem dX12_wash_64 : decode cX12_wash 64 = .ok (.iconst 3, 1) := by decide +kernel
theorem dX12_wash_65 : decode cX12_wash 65 = .ok (.invokevirtual 283, 3) := by decide +kernel
theorem dX12_wash_68 : decode cX12_wash 68 = .ok (.iand, 1) := by decide +kernel
theorem dX12_wash_69 : decode cX12_wash 69 = .ok (.istore_n 3, 1) := by decide +kernel
theorem dX12_wash_70 : decode cX12_wash 70 = .ok (.aload_n 0, 1) := by decide +kernel
theorem dX12_wash_71 : decode cX12_wash 71 = .ok (.getfield 7, 3) := by decide +kernel
theorem dX12_wash_74 : decode cX12_wash 74 = .ok (.iconst 5, 1) := by decide +kernel
theorem dX12_wash_75 : decode cX12_wash 75 = .ok (.dup2, 1) := by decide +kernel
theorem dX12_wash_76 : decode cX12_wash 76 = .ok (.iaload, 1) := by decide +kernel
theorem dX12_wash_77 : decode cX12_wash 77 = .ok (.aload_n 0, 1) := by decide +kernel
theorem dX12_wash_78 : decode cX12_wash 78 = .ok (.iload_n 2, 1) := by decide +kernel
theorem dX12_wash_79 : decode cX12_wash 79 = .ok (.iconst 1, 1) := by decide +kernel
theorem dX12_wash_80 : decode cX12_wash 80 = .ok (.invokevirtual 283, 3) := by decide +kernel
theorem dX12_wash_83 : decode cX12_wash 83 = .ok (.isub, 1) := by decide +kernel
theorem dX12_wash_84 : decode cX12_wash 84 = .ok (.iastore, 1) := by decide +kernel
theorem dX12_wash_85 : decode cX12_wash 85 = .ok (.aload_n 0, 1) := by decide +kernel
theorem dX12_wash_86 : decode cX12_wash 86 = .ok (.iload_n 1, 1) := by decide +kernel
theorem dX12_wash_87 : decode cX12_wash 87 = .ok (.iload_n 2, 1) := by decide +kernel
theorem dX12_wash_88 : decode cX12_wash 88 = .ok (.invokevirtual 307, 3) := by decide +kernel
theorem dX12_wash_91 : decode cX12_wash 91 = .ok (.aload_n 0, 1) := by decide +kernel
theorem dX12_wash_92 : decode cX12_wash 92 = .ok (.iload_n 1, 1) := by decide +kernel
theorem dX12_wash_93 : decode cX12_wash 93 = .ok (.iconst 2, 1) := by decide +kernel
theorem dX12_wash_94 : decode cX12_wash 94 = .ok (.bipush 9, 2) := by decide +kernel
theorem dX12_wash_96 : decode cX12_wash 96 = .ok (.invokevirtual 51, 3) := by decide +kernel
theorem dX12_wash_99 : decode cX12_wash 99 = .ok (.aload_n 0, 1) := by decide +kernel
theorem dX12_wash_100 : decode cX12_wash 100 = .ok (.iload_n 1, 1) := by decide +kernel
theorem dX12_wash_101 : decode cX12_wash 101 = .ok (.iconst 4, 1) := by decide +kernel
theorem dX12_wash_102 : decode cX12_wash 102 = .ok (.iconst 0, 1) := by decide +kernel
theorem dX12_wash_103 : decode cX12_wash 103 = .ok (.invokevirtual 51, 3) := by decide +kernel
theorem dX12_wash_106 : decode cX12_wash 106 = .ok (.sipush 239, 3) := by decide +kernel
theorem dX12_wash_109 : decode cX12_wash 109 = .ok (.istore 4, 2) := by decide +kernel
theorem dX12_wash_111 : decode cX12_wash 111 = .ok (.iload 4, 2) := by decide +kernel
theorem dX12_wash_113 : decode cX12_wash 113 = .ok (.iconst 4, 1) := by decide +kernel
theorem dX12_wash_114 : decode cX12_wash 114 = .ok (.if_icmp .lt 31, 3) := by decide +kernel
theorem dX12_wash_117 : decode cX12_wash 117 = .ok (.aload_n 0, 1) := by decide +kernel
theorem dX12_wash_118 : decode cX12_wash 118 = .ok (.getfield 7, 3) := by decide +kernel
theorem dX12_wash_121 : decode cX12_wash 121 = .ok (.bipush 110, 2) := by decide +kernel
theorem dX12_wash_123 : decode cX12_wash 123 = .ok (.iload 4, 2) := by decide +kernel
theorem dX12_wash_125 : decode cX12_wash 125 = .ok (.iadd, 1) := by decide +kernel
theorem dX12_wash_126 : decode cX12_wash 126 = .ok (.aload_n 0, 1) := by decide +kernel
theorem dX12_wash_127 : decode cX12_wash 127 = .ok (.getfield 7, 3) := by decide +kernel
theorem dX12_wash_130 : decode cX12_wash 130 = .ok (.bipush 110, 2) := by decide +kernel
theorem dX12_wash_132 : decode cX12_wash 132 = .ok (.iload 4, 2) := by decide +kernel
theorem dX12_wash_134 : decode cX12_wash 134 = .ok (.iadd, 1) := by decide +kernel
theorem dX12_wash_135 : decode cX12_wash 135 = .ok (.iconst 4, 1) := by decide +kernel
theorem dX12_wash_136 : decode cX12_wash 136 = .ok (.isub, 1) := by decide +kernel
theorem dX12_wash_137 : decode cX12_wash 137 = .ok (.iaload, 1) := by decide +kernel
theorem dX12_wash_138 : decode cX12_wash 138 = .ok (.iastore, 1) := by decide +kernel
theorem dX12_wash_139 : decode cX12_wash 139 = .ok (.iinc 4 (-1), 3) := by decide +kernel
theorem dX12_wash_142 : decode cX12_wash 142 = .ok (.goto (-31), 3) := by decide +kernel
theorem dX12_wash_145 : decode cX12_wash 145 = .ok (.aload_n 0, 1) := by decide +kernel
theorem dX12_wash_146 : decode cX12_wash 146 = .ok (.getfield 7, 3) := by decide +kernel
theorem dX12_wash_149 : decode cX12_wash 149 = .ok (.bipush 110, 2) := by decide +kernel
theorem dX12_wash_151 : decode cX12_wash 151 = .ok (.aload_n 0, 1) := by decide +kernel
theorem dX12_wash_152 : decode cX12_wash 152 = .ok (.getfield 7, 3) := by decide +kernel
theorem dX12_wash_155 : decode cX12_wash 155 = .ok (.bipush 9, 2) := by decide +kernel
theorem dX12_wash_157 : decode cX12_wash 157 = .ok (.iaload, 1) := by decide +kernel
theorem dX12_wash_158 : decode cX12_wash 158 = .ok (.iastore, 1) := by decide +kernel
theorem dX12_wash_159 : decode cX12_wash 159 = .ok (.aload_n 0, 1) := by decide +kernel
theorem dX12_wash_160 : decode cX12_wash 160 = .ok (.getfield 7, 3) := by decide +kernel
theorem dX12_wash_163 : decode cX12_wash 163 = .ok (.bipush 111, 2) := by decide +kernel
theorem dX12_wash_165 : decode cX12_wash 165 = .ok (.iload_n 1, 1) := by decide +kernel
theorem dX12_wash_166 : decode cX12_wash 166 = .ok (.iastore, 1) := by decide +kernel
theorem dX12_wash_167 : decode cX12_wash 167 = .ok (.aload_n 0, 1) := by decide +kernel
theorem dX12_wash_168 : decode cX12_wash 168 = .ok (.getfield 7, 3) := by decide +kernel
theorem dX12_wash_171 : decode cX12_wash 171 = .ok (.bipush 112, 2) := by decide +kernel
theorem dX12_wash_173 : decode cX12_wash 173 = .ok (.iload_n 2, 1) := by decide +kernel
theorem dX12_wash_174 : decode cX12_wash 174 = .ok (.iastore, 1) := by decide +kernel
theorem dX12_wash_175 : decode cX12_wash 175 = .ok (.aload_n 0, 1) := by decide +kernel
theorem dX12_wash_176 : decode cX12_wash 176 = .ok (.getfield 7, 3) := by decide +kernel
theorem dX12_wash_179 : decode cX12_wash 179 = .ok (.bipush 113, 2) := by decide +kernel
theorem dX12_wash_181 : decode cX12_wash 181 = .ok (.iload_n 3, 1) := by decide +kernel
theorem dX12_wash_182 : decode cX12_wash 182 = .ok (.iastore, 1) := by decide +kernel
theorem dX12_wash_183 : decode cX12_wash 183 = .ok (.aload_n 0, 1) := by decide +kernel
theorem dX12_wash_184 : decode cX12_wash 184 = .ok (.getfield 7, 3) := by decide +kernel
theorem dX12_wash_187 : decode cX12_wash 187 = .ok (.bipush 11, 2) := by decide +kernel
theorem dX12_wash_189 : decode cX12_wash 189 = .ok (.bipush 60, 2) := by decide +kernel
theorem dX12_wash_191 : decode cX12_wash 191 = .ok (.aload_n 0, 1) := by decide +kernel
theorem dX12_wash_192 : decode cX12_wash 192 = .ok (.getfield 7, 3) := by decide +kernel
theorem dX12_wash_195 : decode cX12_wash 195 = .ok (.bipush 11, 2) := by decide +kernel
theorem dX12_wash_197 : decode cX12_wash 197 = .ok (.iaload, 1) := by decide +kernel
theorem dX12_wash_198 : decode cX12_wash 198 = .ok (.iconst 1, 1) := by decide +kernel
theorem dX12_wash_199 : decode cX12_wash 199 = .ok (.iadd, 1) := by decide +kernel
theorem dX12_wash_200 : decode cX12_wash 200 = .ok (.invokestatic 253, 3) := by decide +kernel
theorem dX12_wash_203 : decode cX12_wash 203 = .ok (.iastore, 1) := by decide +kernel
theorem dX12_wash_204 : decode cX12_wash 204 = .ok (.iload_n 3, 1) := by decide +kernel
theorem dX12_wash_205 : decode cX12_wash 205 = .ok (.ireturn, 1) := by decide +kernel
theorem dX12_hang_0 : decode cX12_hang 0 = .ok (.aload_n 0, 1) := by decide +kernel
theorem dX12_hang_1 : decode cX12_hang 1 = .ok (.iload_n 1, 1) := by decide +kernel
theorem dX12_hang_2 : decode cX12_hang 2 = .ok (.invokestatic 289, 3) := by decide +kernel
theorem dX12_hang_5 : decode cX12_hang 5 = .ok (.ifCond .ne 7, 3) := by decide +kernel
theorem dX12_hang_8 : decode cX12_hang 8 = .ok (.iconst 1, 1) := by decide +kernel
theorem dX12_hang_9 : decode cX12_hang 9 = .ok (.goto 4, 3) := by decide +kernel
theorem dX12_hang_12 : decode cX12_hang 12 = .ok (.iconst 0, 1) := by decide +kernel
theorem dX12_hang_13 : decode cX12_hang 13 = .ok (.putfield 55, 3) := by decide +kernel
theorem dX12_hang_16 : decode cX12_hang 16 = .ok (.aload_n 0, 1) := by decide +kernel
theorem dX12_hang_17 : decode cX12_hang 17 = .ok (.getfield 55, 3) := by decide +kernel
theorem dX12_hang_20 : decode cX12_hang 20 = .ok (.ifCond .le 5, 3) := by decide +kernel
theorem dX12_hang_23 : decode cX12_hang 23 = .ok (.iconst 0, 1) := by decide +kernel
theorem dX12_hang_24 : decode cX12_hang 24 = .ok (.ireturn, 1) := by decide +kernel
theorem dX12_hang_25 : decode cX12_hang 25 = .ok (.aload_n 0, 1) := by decide +kernel
theorem dX12_hang_26 : decode cX12_hang 26 = .ok (.invokevirtual 304, 3) := by decide +kernel
theorem dX12_hang_29 : decode cX12_hang 29 = .ok (.aload_n 0, 1) := by decide +kernel
theorem dX12_hang_30 : decode cX12_hang 30 = .ok (.iload_n 1, 1) := by decide +kernel
theorem dX12_hang_31 : decode cX12_hang 31 = .ok (.iconst 4, 1) := by decide +kernel
theorem dX12_hang_32 : decode cX12_hang 32 = .ok (.invokevirtual 62, 3) := by decide +kernel
theorem dX12_hang_35 : decode cX12_hang 35 = .ok (.iconst 1, 1) := by decide +kernel
theorem dX12_hang_36 : decode cX12_hang 36 = .ok (.if_icmp .ne 7, 3) := by decide +kernel
theorem dX12_hang_39 : decode cX12_hang 39 = .ok (.iconst 1, 1) := by decide +kernel
theorem dX12_hang_40 : decode cX12_hang 40 = .ok (.goto 4, 3) := by decide +kernel
theorem dX12_hang_43 : decode cX12_hang 43 = .ok (.iconst 0, 1) := by decide +kernel
theorem dX12_hang_44 : decode cX12_hang 44 = .ok (.istore_n 3, 1) := by decide +kernel
theorem dX12_hang_45 : decode cX12_hang 45 = .ok (.aload_n 0, 1) := by decide +kernel
theorem dX12_hang_46 : decode cX12_hang 46 = .ok (.iload_n 1, 1) := by decide +kernel
theorem dX12_hang_47 : decode cX12_hang 47 = .ok (.iconst 4, 1) := by decide +kernel
theorem dX12_hang_48 : decode cX12_hang 48 = .ok (.iload_n 2, 1) := by decide +kernel
theorem dX12_hang_49 : decode cX12_hang 49 = .ok (.ifCond .eq 7, 3) := by decide +kernel
theorem dX12_hang_52 : decode cX12_hang 52 = .ok (.iconst 1, 1) := by decide +kernel
theorem dX12_hang_53 : decode cX12_hang 53 = .ok (.goto 4, 3) := by decide +kernel
theorem dX12_hang_56 : decode cX12_hang 56 = .ok (.iconst 0, 1) := by decide +kernel
theorem dX12_hang_57 : decode cX12_hang 57 = .ok (.invokevirtual 51, 3) := by decide +kernel
theorem dX12_hang_60 : decode cX12_hang 60 = .ok (.iload_n 3, 1) := by decide +kernel
theorem dX12_hang_61 : decode cX12_hang 61 = .ok (.iload_n 2, 1) := by decide +kernel
theorem dX12_hang_62 : decode cX12_hang 62 = .ok (.if_icmp .eq 7, 3) := by decide +kernel
theorem dX12_hang_65 : decode cX12_hang 65 = .ok (.iconst 1, 1) := by decide +kernel
theorem dX12_hang_66 : decode cX12_hang 66 = .ok (.goto 4, 3) := by decide +kernel
theorem dX12_hang_69 : decode cX12_hang 69 = .ok (.iconst 0, 1) := by decide +kernel
theorem dX12_hang_70 : decode cX12_hang 70 = .ok (.ireturn, 1) := by decide +kernel
theorem dX12_darn_0 : decode cX12_darn 0 = .ok (.aload_n 0, 1) := by decide +kernel
theorem dX12_darn_1 : decode cX12_darn 1 = .ok (.iload_n 1, 1) := by decide +kernel
theorem dX12_darn_2 : decode cX12_darn 2 = .ok (.invokestatic 289, 3) := by decide +kernel
theorem dX12_darn_5 : decode cX12_darn 5 = .ok (.ifCond .ne 7, 3) := by decide +kernel
theorem dX12_darn_8 : decode cX12_darn 8 = .ok (.iconst 1, 1) := by decide +kernel
theorem dX12_darn_9 : decode cX12_darn 9 = .ok (.goto 18, 3) := by decide +kernel
theorem dX12_darn_12 : decode cX12_darn 12 = .ok (.aload_n 0, 1) := by decide +kernel
theorem dX12_darn_13 : decode cX12_darn 13 = .ok (.getfield 7, 3) := by decide +kernel
theorem dX12_darn_16 : decode cX12_darn 16 = .ok (.iconst 5, 1) := by decide +kernel
theorem dX12_darn_17 : decode cX12_darn 17 = .ok (.iaload, 1) := by decide +kernel
theorem dX12_darn_18 : decode cX12_darn 18 = .ok (.iconst 2, 1) := by decide +kernel
theorem dX12_darn_19 : decode cX12_darn 19 = .ok (.if_icmp .ge 7, 3) := by decide +kernel
theorem dX12_darn_22 : decode cX12_darn 22 = .ok (.iconst 2, 1) := by decide +kernel
theorem dX12_darn_23 : decode cX12_darn 23 = .ok (.goto 4, 3) := by decide +kernel
theorem dX12_darn_26 : decode cX12_darn 26 = .ok (.iconst 0, 1) := by decide +kernel
theorem dX12_darn_27 : decode cX12_darn 27 = .ok (.putfield 55, 3) := by decide +kernel
theorem dX12_darn_30 : decode cX12_darn 30 = .ok (.aload_n 0, 1) := by decide +kernel
theorem dX12_darn_31 : decode cX12_darn 31 = .ok (.getfield 55, 3) := by decide +kernel
theorem dX12_darn_34 : decode cX12_darn 34 = .ok (.ifCond .le 5, 3) := by decide +kernel
theorem dX12_darn_37 : decode cX12_darn 37 = .ok (.iconst 0, 1) := by decide +kernel
theorem dX12_darn_38 : decode cX12_darn 38 = .ok (.ireturn, 1) := by decide +kernel
theorem dX12_darn_39 : decode cX12_darn 39 = .ok (.aload_n 0, 1) := by decide +kernel
theorem dX12_darn_40 : decode cX12_darn 40 = .ok (.invokevirtual 304, 3) := by decide +kernel
theorem dX12_darn_43 : decode cX12_darn 43 = .ok (.aload_n 0, 1) := by decide +kernel
theorem dX12_darn_44 : decode cX12_darn 44 = .ok (.getfield 7, 3) := by decide +kernel
theorem dX12_darn_47 : decode cX12_darn 47 = .ok (.iconst 5, 1) := by decide +kernel
theorem dX12_darn_48 : decode cX12_darn 48 = .ok (.dup2, 1) := by decide +kernel
theorem dX12_darn_49 : decode cX12_darn 49 = .ok (.iaload, 1) := by decide +kernel
theorem dX12_darn_50 : decode cX12_darn 50 = .ok (.iconst 2, 1) := by decide +kernel
theorem dX12_darn_51 : decode cX12_darn 51 = .ok (.isub, 1) := by decide +kernel
theorem dX12_darn_52 : decode cX12_darn 52 = .ok (.iastore, 1) := by decide +kernel
theorem dX12_darn_53 : decode cX12_darn 53 = .ok (.aload_n 0, 1) := by decide +kernel
theorem dX12_darn_54 : decode cX12_darn 54 = .ok (.iload_n 1, 1) := by decide +kernel
theorem dX12_darn_55 : decode cX12_darn 55 = .ok (.iconst 1, 1) := by decide +kernel
theorem dX12_darn_56 : decode cX12_darn 56 = .ok (.iconst 0, 1) := by decide +kernel
theorem dX12_darn_57 : decode cX12_darn 57 = .ok (.aload_n 0, 1) := by decide +kernel
theorem dX12_darn_58 : decode cX12_darn 58 = .ok (.iload_n 1, 1) := by decide +kernel
theorem dX12_darn_59 : decode cX12_darn 59 = .ok (.iconst 1, 1) := by decide +kernel
theorem dX12_darn_60 : decode cX12_darn 60 = .ok (.invokevirtual 62, 3) := by decide +kernel
theorem dX12_darn_63 : decode cX12_darn 63 = .ok (.iconst 3, 1) := by decide +kernel
theorem dX12_darn_64 : decode cX12_darn 64 = .ok (.isub, 1) := by decide +kernel
theorem dX12_darn_65 : decode cX12_darn 65 = .ok (.invokestatic 256, 3) := by decide +kernel
theorem dX12_darn_68 : decode cX12_darn 68 = .ok (.invokevirtual 51, 3) := by decide +kernel
theorem dX12_darn_71 : decode cX12_darn 71 = .ok (.aload_n 0, 1) := by decide +kernel
theorem dX12_darn_72 : decode cX12_darn 72 = .ok (.iload_n 1, 1) := by decide +kernel
theorem dX12_darn_73 : decode cX12_darn 73 = .ok (.iconst 1, 1) := by decide +kernel
theorem dX12_darn_74 : decode cX12_darn 74 = .ok (.invokevirtual 62, 3) := by decide +kernel
theorem dX12_darn_77 : decode cX12_darn 77 = .ok (.ireturn, 1) := by decide +kernel
theorem dX12_move_0 : decode cX12_move 0 = .ok (.aload_n 0, 1) := by decide +kernel
theorem dX12_move_1 : decode cX12_move 1 = .ok (.iload_n 1, 1) := by decide +kernel
theorem dX12_move_2 : decode cX12_move 2 = .ok (.invokestatic 289, 3) := by decide +kernel
theorem dX12_move_5 : decode cX12_move 5 = .ok (.ifCond .eq 10, 3) := by decide +kernel
theorem dX12_move_8 : decode cX12_move 8 = .ok (.iload_n 2, 1) := by decide +kernel
theorem dX12_move_9 : decode cX12_move 9 = .ok (.invokestatic 289, 3) := by decide +kernel
theorem dX12_move_12 : decode cX12_move 12 = .ok (.ifCond .ne 7, 3) := by decide +kernel
theorem dX12_move_15 : decode cX12_move 15 = .ok (.iconst 1, 1) := by decide +kernel
theorem dX12_move_16 : decode cX12_move 16 = .ok (.goto 4, 3) := by decide +kernel
theorem dX12_move_19 : decode cX12_move 19 = .ok (.iconst 0, 1) := by decide +kernel
theorem dX12_move_20 : decode cX12_move 20 = .ok (.putfield 55, 3) := by decide +kernel
theorem dX12_move_23 : decode cX12_move 23 = .ok (.aload_n 0, 1) := by decide +kernel
theorem dX12_move_24 : decode cX12_move 24 = .ok (.getfield 55, 3) := by decide +kernel
theorem dX12_move_27 : decode cX12_move 27 = .ok (.ifCond .le 5, 3) := by decide +kernel
theorem dX12_move_30 : decode cX12_move 30 = .ok (.iconst 0, 1) := by decide +kernel
theorem dX12_move_31 : decode cX12_move 31 = .ok (.ireturn, 1) := by decide +kernel
theorem dX12_move_32 : decode cX12_move 32 = .ok (.aload_n 0, 1) := by decide +kernel
theorem dX12_move_33 : decode cX12_move 33 = .ok (.invokevirtual 304, 3) := by decide +kernel
theorem dX12_move_36 : decode cX12_move 36 = .ok (.aload_n 0, 1) := by decide +kernel
theorem dX12_move_37 : decode cX12_move 37 = .ok (.iload_n 2, 1) := by decide +kernel
theorem dX12_move_38 : decode cX12_move 38 = .ok (.invokevirtual 301, 3) := by decide +kernel
theorem dX12_move_41 : decode cX12_move 41 = .ok (.istore_n 3, 1) := by decide +kernel
theorem dX12_move_42 : decode cX12_move 42 = .ok (.aload_n 0, 1) := by decide +kernel
theorem dX12_move_43 : decode cX12_move 43 = .ok (.iload_n 3, 1) := by decide +kernel
theorem dX12_move_44 : decode cX12_move 44 = .ok (.iconst 5, 1) := by decide +kernel
theorem dX12_move_45 : decode cX12_move 45 = .ok (.aload_n 0, 1) := by decide +kernel
theorem dX12_move_46 : decode cX12_move 46 = .ok (.iload_n 1, 1) := by decide +kernel
theorem dX12_move_47 : decode cX12_move 47 = .ok (.iconst 5, 1) := by decide +kernel
theorem dX12_move_48 : decode cX12_move 48 = .ok (.invokevirtual 62, 3) := by decide +kernel
theorem dX12_move_51 : decode cX12_move 51 = .ok (.invokevirtual 51, 3) := by decide +kernel
theorem dX12_move_54 : decode cX12_move 54 = .ok (.aload_n 0, 1) := by decide +kernel
theorem dX12_move_55 : decode cX12_move 55 = .ok (.iload_n 1, 1) := by decide +kernel
theorem dX12_move_56 : decode cX12_move 56 = .ok (.iconst 5, 1) := by decide +kernel
theorem dX12_move_57 : decode cX12_move 57 = .ok (.iload_n 2, 1) := by decide +kernel
theorem dX12_move_58 : decode cX12_move 58 = .ok (.invokevirtual 51, 3) := by decide +kernel
theorem dX12_move_61 : decode cX12_move 61 = .ok (.iload_n 3, 1) := by decide +kernel
theorem dX12_move_62 : decode cX12_move 62 = .ok (.ireturn, 1) := by decide +kernel
theorem dX12_drop_0 : decode cX12_drop 0 = .ok (.aload_n 0, 1) := by decide +kernel
theorem dX12_drop_1 : decode cX12_drop 1 = .ok (.aload_n 0, 1) := by decide +kernel
theorem dX12_drop_2 : decode cX12_drop 2 = .ok (.iload_n 1, 1) := by decide +kernel
theorem dX12_drop_3 : decode cX12_drop 3 = .ok (.invokevirtual 298, 3) := by decide +kernel
theorem dX12_drop_6 : decode cX12_drop 6 = .ok (.ifCond .ne 7, 3) := by decide +kernel
theorem dX12_drop_9 : decode cX12_drop 9 = .ok (.iconst 1, 1) := by decide +kernel
theorem dX12_drop_10 : decode cX12_drop 10 = .ok (.goto 4, 3) := by decide +kernel
theorem dX12_drop_13 : decode cX12_drop 13 = .ok (.iconst 0, 1) := by decide +kernel
theorem dX12_drop_14 : decode cX12_drop 14 = .ok (.putfield 55, 3) := by decide +kernel
theorem dX12_drop_17 : decode cX12_drop 17 = .ok (.aload_n 0, 1) := by decide +kernel
theorem dX12_drop_18 : decode cX12_drop 18 = .ok (.getfield 55, 3) := by decide +kernel
theorem dX12_drop_21 : decode cX12_drop 21 = .ok (.ifCond .le 5, 3) := by decide +kernel
theorem dX12_drop_24 : decode cX12_drop 24 = .ok (.iconst 0, 1) := by decide +kernel
theorem dX12_drop_25 : decode cX12_drop 25 = .ok (.ireturn, 1) := by decide +kernel
theorem dX12_drop_26 : decode cX12_drop 26 = .ok (.aload_n 0, 1) := by decide +kernel
theorem dX12_drop_27 : decode cX12_drop 27 = .ok (.invokevirtual 304, 3) := by decide +kernel
theorem dX12_drop_30 : decode cX12_drop 30 = .ok (.aload_n 0, 1) := by decide +kernel
theorem dX12_drop_31 : decode cX12_drop 31 = .ok (.getfield 7, 3) := by decide +kernel
theorem dX12_drop_34 : decode cX12_drop 34 = .ok (.iconst 3, 1) := by decide +kernel
theorem dX12_drop_35 : decode cX12_drop 35 = .ok (.dup2, 1) := by decide +kernel
theorem dX12_drop_36 : decode cX12_drop 36 = .ok (.iaload, 1) := by decide +kernel
theorem dX12_drop_37 : decode cX12_drop 37 = .ok (.iconst 1, 1) := by decide +kernel
theorem dX12_drop_38 : decode cX12_drop 38 = .ok (.isub, 1) := by decide +kernel
theorem dX12_drop_39 : decode cX12_drop 39 = .ok (.iastore, 1) := by decide +kernel
theorem dX12_drop_40 : decode cX12_drop 40 = .ok (.bipush 70, 2) := by decide +kernel
theorem dX12_drop_42 : decode cX12_drop 42 = .ok (.iconst 4, 1) := by decide +kernel
theorem dX12_drop_43 : decode cX12_drop 43 = .ok (.iload_n 1, 1) := by decide +kernel
theorem dX12_drop_44 : decode cX12_drop 44 = .ok (.imul, 1) := by decide +kernel
theorem dX12_drop_45 : decode cX12_drop 45 = .ok (.iadd, 1) := by decide +kernel
theorem dX12_drop_46 : decode cX12_drop 46 = .ok (.istore_n 2, 1) := by decide +kernel
theorem dX12_drop_47 : decode cX12_drop 47 = .ok (.iload_n 2, 1) := by decide +kernel
theorem dX12_drop_48 : decode cX12_drop 48 = .ok (.bipush 70, 2) := by decide +kernel
theorem dX12_drop_50 : decode cX12_drop 50 = .ok (.iconst 4, 1) := by decide +kernel
theorem dX12_drop_51 : decode cX12_drop 51 = .ok (.aload_n 0, 1) := by decide +kernel
theorem dX12_drop_52 : decode cX12_drop 52 = .ok (.getfield 7, 3) := by decide +kernel
theorem dX12_drop_55 : decode cX12_drop 55 = .ok (.iconst 3, 1) := by decide +kernel
theorem dX12_drop_56 : decode cX12_drop 56 = .ok (.iaload, 1) := by decide +kernel
theorem dX12_drop_57 : decode cX12_drop 57 = .ok (.imul, 1) := by decide +kernel
theorem dX12_drop_58 : decode cX12_drop 58 = .ok (.iadd, 1) := by decide +kernel
theorem dX12_drop_59 : decode cX12_drop 59 = .ok (.if_icmp .ge 23, 3) := by decide +kernel
theorem dX12_drop_62 : decode cX12_drop 62 = .ok (.aload_n 0, 1) := by decide +kernel
theorem dX12_drop_63 : decode cX12_drop 63 = .ok (.getfield 7, 3) := by decide +kernel
theorem dX12_drop_66 : decode cX12_drop 66 = .ok (.iload_n 2, 1) := by decide +kernel
theorem dX12_drop_67 : decode cX12_drop 67 = .ok (.aload_n 0, 1) := by decide +kernel
theorem dX12_drop_68 : decode cX12_drop 68 = .ok (.getfield 7, 3) := by decide +kernel
theorem dX12_drop_71 : decode cX12_drop 71 = .ok (.iload_n 2, 1) := by decide +kernel
theorem dX12_drop_72 : decode cX12_drop 72 = .ok (.iconst 4, 1) := by decide +kernel
theorem dX12_drop_73 : decode cX12_drop 73 = .ok (.iadd, 1) := by decide +kernel
theorem dX12_drop_74 : decode cX12_drop 74 = .ok (.iaload, 1) := by decide +kernel
theorem dX12_drop_75 : decode cX12_drop 75 = .ok (.iastore, 1) := by decide +kernel
theorem dX12_drop_76 : decode cX12_drop 76 = .ok (.iinc 2 1, 3) := by decide +kernel
theorem dX12_drop_79 : decode cX12_drop 79 = .ok (.goto (-32), 3) := by decide +kernel
theorem dX12_drop_82 : decode cX12_drop 82 = .ok (.aload_n 0, 1) := by decide +kernel
theorem dX12_drop_83 : decode cX12_drop 83 = .ok (.getfield 7, 3) := by decide +kernel
theorem dX12_drop_86 : decode cX12_drop 86 = .ok (.iconst 3, 1) := by decide +kernel
theorem dX12_drop_87 : decode cX12_drop 87 = .ok (.iaload, 1) := by decide +kernel
theorem dX12_drop_88 : decode cX12_drop 88 = .ok (.ireturn, 1) := by decide +kernel
theorem dX12_nights_0 : decode cX12_nights 0 = .ok (.aload_n 0, 1) := by decide +kernel
theorem dX12_nights_1 : decode cX12_nights 1 = .ok (.iload_n 1, 1) := by decide +kernel
theorem dX12_nights_2 : decode cX12_nights 2 = .ok (.iconst 1, 1) := by decide +kernel
theorem dX12_nights_3 : decode cX12_nights 3 = .ok (.bipush 60, 2) := by decide +kernel
theorem dX12_nights_5 : decode cX12_nights 5 = .ok (.invokestatic 58, 3) := by decide +kernel
theorem dX12_nights_8 : decode cX12_nights 8 = .ok (.ifCond .ne 7, 3) := by decide +kernel
theorem dX12_nights_11 : decode cX12_nights 11 = .ok (.iconst 1, 1) := by decide +kernel
theorem dX12_nights_12 : decode cX12_nights 12 = .ok (.goto 4, 3) := by decide +kernel
theorem dX12_nights_15 : decode cX12_nights 15 = .ok (.iconst 0, 1) := by decide +kernel
theorem dX12_nights_16 : decode cX12_nights 16 = .ok (.putfield 55, 3) := by decide +kernel
theorem dX12_nights_19 : decode cX12_nights 19 = .ok (.aload_n 0, 1) := by decide +kernel
theorem dX12_nights_20 : decode cX12_nights 20 = .ok (.getfield 55, 3) := by decide +kernel
theorem dX12_nights_23 : decode cX12_nights 23 = .ok (.ifCond .le 5, 3) := by decide +kernel
theorem dX12_nights_26 : decode cX12_nights 26 = .ok (.iconst 0, 1) := by decide +kernel
theorem dX12_nights_27 : decode cX12_nights 27 = .ok (.ireturn, 1) := by decide +kernel
theorem dX12_nights_28 : decode cX12_nights 28 = .ok (.aload_n 0, 1) := by decide +kernel
theorem dX12_nights_29 : decode cX12_nights 29 = .ok (.invokevirtual 304, 3) := by decide +kernel
theorem dX12_nights_32 : decode cX12_nights 32 = .ok (.aload_n 0, 1) := by decide +kernel
theorem dX12_nights_33 : decode cX12_nights 33 = .ok (.iload_n 1, 1) := by decide +kernel
theorem dX12_nights_34 : decode cX12_nights 34 = .ok (.invokevirtual 310, 3) := by decide +kernel
theorem dX12_nights_37 : decode cX12_nights 37 = .ok (.ireturn, 1) := by decide +kernel
theorem dX12_shining_0 : decode cX12_shining 0 = .ok (.iconst 0, 1) := by decide +kernel
theorem dX12_shining_1 : decode cX12_shining 1 = .ok (.istore_n 1, 1) := by decide +kernel
theorem dX12_shining_2 : decode cX12_shining 2 = .ok (.iconst 0, 1) := by decide +kernel
theorem dX12_shining_3 : decode cX12_shining 3 = .ok (.istore_n 2, 1) := by decide +kernel
theorem dX12_shining_4 : decode cX12_shining 4 = .ok (.iload_n 2, 1) := by decide +kernel
theorem dX12_shining_5 : decode cX12_shining 5 = .ok (.bipush 8, 2) := by decide +kernel
theorem dX12_shining_7 : decode cX12_shining 7 = .ok (.if_icmp .ge 27, 3) := by decide +kernel
theorem dX12_shining_10 : decode cX12_shining 10 = .ok (.iload_n 1, 1) := by decide +kernel
theorem dX12_shining_11 : decode cX12_shining 11 = .ok (.aload_n 0, 1) := by decide +kernel
theorem dX12_shining_12 : decode cX12_shining 12 = .ok (.iload_n 2, 1) := by decide +kernel
theorem dX12_shining_13 : decode cX12_shining 13 = .ok (.invokevirtual 262, 3) := by decide +kernel
theorem dX12_shining_16 : decode cX12_shining 16 = .ok (.ifCond .le 9, 3) := by decide +kernel
theorem dX12_shining_19 : decode cX12_shining 19 = .ok (.iconst 1, 1) := by decide +kernel
theorem dX12_shining_20 : decode cX12_shining 20 = .ok (.iload_n 2, 1) := by decide +kernel
theorem dX12_shining_21 : decode cX12_shining 21 = .ok (.ishl, 1) := by decide +kernel
theorem dX12_shining_22 : decode cX12_shining 22 = .ok (.goto 4, 3) := by decide +kernel
theorem dX12_shining_25 : decode cX12_shining 25 = .ok (.iconst 0, 1) := by decide +kernel
theorem dX12_shining_26 : decode cX12_shining 26 = .ok (.ior, 1) := by decide +kernel
theorem dX12_shining_27 : decode cX12_shining 27 = .ok (.istore_n 1, 1) := by decide +kernel
theorem dX12_shining_28 : decode cX12_shining 28 = .ok (.iinc 2 1, 3) := by decide +kernel
theorem dX12_shining_31 : decode cX12_shining 31 = .ok (.goto (-27), 3) := by decide +kernel
theorem dX12_shining_34 : decode cX12_shining 34 = .ok (.iload_n 1, 1) := by decide +kernel
theorem dX12_shining_35 : decode cX12_shining 35 = .ok (.ireturn, 1) := by decide +kernel
theorem dX12_shines_0 : decode cX12_shines 0 = .ok (.aload_n 0, 1) := by decide +kernel
theorem dX12_shines_1 : decode cX12_shines 1 = .ok (.iconst 0, 1) := by decide +kernel
theorem dX12_shines_2 : decode cX12_shines 2 = .ok (.putfield 55, 3) := by decide +kernel
theorem dX12_shines_5 : decode cX12_shines 5 = .ok (.aload_n 0, 1) := by decide +kernel
theorem dX12_shines_6 : decode cX12_shines 6 = .ok (.invokevirtual 313, 3) := by decide +kernel
theorem dX12_shines_9 : decode cX12_shines 9 = .ok (.ireturn, 1) := by decide +kernel
theorem dX12_light_0 : decode cX12_light 0 = .ok (.aload_n 0, 1) := by decide +kernel
theorem dX12_light_1 : decode cX12_light 1 = .ok (.iconst 0, 1) := by decide +kernel
theorem dX12_light_2 : decode cX12_light 2 = .ok (.putfield 55, 3) := by decide +kernel
theorem dX12_light_5 : decode cX12_light 5 = .ok (.aload_n 0, 1) := by decide +kernel
theorem dX12_light_6 : decode cX12_light 6 = .ok (.invokevirtual 286, 3) := by decide +kernel
theorem dX12_light_9 : decode cX12_light 9 = .ok (.ireturn, 1) := by decide +kernel
theorem dX12_wouldBe_0 : decode cX12_wouldBe 0 = .ok (.iconst 0, 1) := by decide +kernel
theorem dX12_wouldBe_1 : decode cX12_wouldBe 1 = .ok (.istore_n 3, 1) := by decide +kernel
theorem dX12_wouldBe_2 : decode cX12_wouldBe 2 = .ok (.iload_n 3, 1) := by decide +kernel
theorem dX12_wouldBe_3 : decode cX12_wouldBe 3 = .ok (.bipush 6, 2) := by decide +kernel
theorem dX12_wouldBe_5 : decode cX12_wouldBe 5 = .ok (.if_icmp .ge 21, 3) := by decide +kernel
theorem dX12_wouldBe_8 : decode cX12_wouldBe 8 = .ok (.aload_n 0, 1) := by decide +kernel
theorem dX12_wouldBe_9 : decode cX12_wouldBe 9 = .ok (.getfield 16, 3) := by decide +kernel
theorem dX12_wouldBe_12 : decode cX12_wouldBe 12 = .ok (.iload_n 3, 1) := by decide +kernel
theorem dX12_wouldBe_13 : decode cX12_wouldBe 13 = .ok (.aload_n 0, 1) := by decide +kernel
theorem dX12_wouldBe_14 : decode cX12_wouldBe 14 = .ok (.iload_n 1, 1) := by decide +kernel
theorem dX12_wouldBe_15 : decode cX12_wouldBe 15 = .ok (.iload_n 3, 1) := by decide +kernel
theorem dX12_wouldBe_16 : decode cX12_wouldBe 16 = .ok (.invokevirtual 62, 3) := by decide +kernel
theorem dX12_wouldBe_19 : decode cX12_wouldBe 19 = .ok (.iastore, 1) := by decide +kernel
theorem dX12_wouldBe_20 : decode cX12_wouldBe 20 = .ok (.iinc 3 1, 3) := by decide +kernel
theorem dX12_wouldBe_23 : decode cX12_wouldBe 23 = .ok (.goto (-21), 3) := by decide +kernel
theorem dX12_wouldBe_26 : decode cX12_wouldBe 26 = .ok (.iload_n 2, 1) := by decide +kernel
theorem dX12_wouldBe_27 : decode cX12_wouldBe 27 = .ok (.iconst (-1), 1) := by decide +kernel
theorem dX12_wouldBe_28 : decode cX12_wouldBe 28 = .ok (.if_icmp .eq 9, 3) := by decide +kernel
theorem dX12_wouldBe_31 : decode cX12_wouldBe 31 = .ok (.aload_n 0, 1) := by decide +kernel
theorem dX12_wouldBe_32 : decode cX12_wouldBe 32 = .ok (.iload_n 1, 1) := by decide +kernel
theorem dX12_wouldBe_33 : decode cX12_wouldBe 33 = .ok (.iload_n 2, 1) := by decide +kernel
theorem dX12_wouldBe_34 : decode cX12_wouldBe 34 = .ok (.invokevirtual 307, 3) := by decide +kernel
theorem dX12_wouldBe_37 : decode cX12_wouldBe 37 = .ok (.aload_n 0, 1) := by decide +kernel
theorem dX12_wouldBe_38 : decode cX12_wouldBe 38 = .ok (.iload_n 1, 1) := by decide +kernel
theorem dX12_wouldBe_39 : decode cX12_wouldBe 39 = .ok (.iconst 2, 1) := by decide +kernel
theorem dX12_wouldBe_40 : decode cX12_wouldBe 40 = .ok (.iconst 0, 1) := by decide +kernel
theorem dX12_wouldBe_41 : decode cX12_wouldBe 41 = .ok (.invokevirtual 51, 3) := by decide +kernel
theorem dX12_wouldBe_44 : decode cX12_wouldBe 44 = .ok (.aload_n 0, 1) := by decide +kernel
theorem dX12_wouldBe_45 : decode cX12_wouldBe 45 = .ok (.iload_n 1, 1) := by decide +kernel
theorem dX12_wouldBe_46 : decode cX12_wouldBe 46 = .ok (.iconst 4, 1) := by decide +kernel
theorem dX12_wouldBe_47 : decode cX12_wouldBe 47 = .ok (.iconst 1, 1) := by decide +kernel
theorem dX12_wouldBe_48 : decode cX12_wouldBe 48 = .ok (.invokevirtual 51, 3) := by decide +kernel
theorem dX12_wouldBe_51 : decode cX12_wouldBe 51 = .ok (.aload_n 0, 1) := by decide +kernel
theorem dX12_wouldBe_52 : decode cX12_wouldBe 52 = .ok (.iload_n 1, 1) := by decide +kernel
theorem dX12_wouldBe_53 : decode cX12_wouldBe 53 = .ok (.invokevirtual 259, 3) := by decide +kernel
theorem dX12_wouldBe_56 : decode cX12_wouldBe 56 = .ok (.istore_n 3, 1) := by decide +kernel
theorem dX12_wouldBe_57 : decode cX12_wouldBe 57 = .ok (.iconst 0, 1) := by decide +kernel
theorem dX12_wouldBe_58 : decode cX12_wouldBe 58 = .ok (.istore 4, 2) := by decide +kernel
theorem dX12_wouldBe_60 : decode cX12_wouldBe 60 = .ok (.iload 4, 2) := by decide +kernel
theorem dX12_wouldBe_62 : decode cX12_wouldBe 62 = .ok (.bipush 6, 2) := by decide +kernel
theorem dX12_wouldBe_64 : decode cX12_wouldBe 64 = .ok (.if_icmp .ge 23, 3) := by decide +kernel
theorem dX12_wouldBe_67 : decode cX12_wouldBe 67 = .ok (.aload_n 0, 1) := by decide +kernel
theorem dX12_wouldBe_68 : decode cX12_wouldBe 68 = .ok (.iload_n 1, 1) := by decide +kernel
theorem dX12_wouldBe_69 : decode cX12_wouldBe 69 = .ok (.iload 4, 2) := by decide +kernel
theorem dX12_wouldBe_71 : decode cX12_wouldBe 71 = .ok (.aload_n 0, 1) := by decide +kernel
theorem dX12_wouldBe_72 : decode cX12_wouldBe 72 = .ok (.getfield 16, 3) := by decide +kernel
theorem dX12_wouldBe_75 : decode cX12_wouldBe 75 = .ok (.iload 4, 2) := by decide +kernel
theorem dX12_wouldBe_77 : decode cX12_wouldBe 77 = .ok (.iaload, 1) := by decide +kernel
theorem dX12_wouldBe_78 : decode cX12_wouldBe 78 = .ok (.invokevirtual 51, 3) := by decide +kernel
theorem dX12_wouldBe_81 : decode cX12_wouldBe 81 = .ok (.iinc 4 1, 3) := by decide +kernel
theorem dX12_wouldBe_84 : decode cX12_wouldBe 84 = .ok (.goto (-24), 3) := by decide +kernel
theorem dX12_wouldBe_87 : decode cX12_wouldBe 87 = .ok (.iload_n 3, 1) := by decide +kernel
theorem dX12_wouldBe_88 : decode cX12_wouldBe 88 = .ok (.ireturn, 1) := by decide +kernel
theorem dX12_would_0 : decode cX12_would 0 = .ok (.aload_n 0, 1) := by decide +kernel
theorem dX12_would_1 : decode cX12_would 1 = .ok (.iload_n 1, 1) := by decide +kernel
theorem dX12_would_2 : decode cX12_would 2 = .ok (.invokestatic 289, 3) := by decide +kernel
theorem dX12_would_5 : decode cX12_would 5 = .ok (.ifCond .eq 11, 3) := by decide +kernel
theorem dX12_would_8 : decode cX12_would 8 = .ok (.aload_n 0, 1) := by decide +kernel
theorem dX12_would_9 : decode cX12_would 9 = .ok (.iload_n 2, 1) := by decide +kernel
theorem dX12_would_10 : decode cX12_would 10 = .ok (.invokevirtual 298, 3) := by decide +kernel
theorem dX12_would_13 : decode cX12_would 13 = .ok (.ifCond .ne 7, 3) := by decide +kernel
theorem dX12_would_16 : decode cX12_would 16 = .ok (.iconst 1, 1) := by decide +kernel
theorem dX12_would_17 : decode cX12_would 17 = .ok (.goto 4, 3) := by decide +kernel
theorem dX12_would_20 : decode cX12_would 20 = .ok (.iconst 0, 1) := by decide +kernel
theorem dX12_would_21 : decode cX12_would 21 = .ok (.putfield 55, 3) := by decide +kernel
theorem dX12_would_24 : decode cX12_would 24 = .ok (.aload_n 0, 1) := by decide +kernel
theorem dX12_would_25 : decode cX12_would 25 = .ok (.getfield 55, 3) := by decide +kernel
theorem dX12_would_28 : decode cX12_would 28 = .ok (.ifCond .le 7, 3) := by decide +kernel
theorem dX12_would_31 : decode cX12_would 31 = .ok (.iconst 0, 1) := by decide +kernel
theorem dX12_would_32 : decode cX12_would 32 = .ok (.goto 9, 3) := by decide +kernel
theorem dX12_would_35 : decode cX12_would 35 = .ok (.aload_n 0, 1) := by decide +kernel
theorem dX12_would_36 : decode cX12_would 36 = .ok (.iload_n 1, 1) := by decide +kernel
theorem dX12_would_37 : decode cX12_would 37 = .ok (.iload_n 2, 1) := by decide +kernel
theorem dX12_would_38 : decode cX12_would 38 = .ok (.invokevirtual 316, 3) := by decide +kernel
theorem dX12_would_41 : decode cX12_would 41 = .ok (.ireturn, 1) := by decide +kernel
theorem dX12_best_0 : decode cX12_best 0 = .ok (.aload_n 0, 1) := by decide +kernel
theorem dX12_best_1 : decode cX12_best 1 = .ok (.iload_n 1, 1) := by decide +kernel
theorem dX12_best_2 : decode cX12_best 2 = .ok (.invokestatic 289, 3) := by decide +kernel
theorem dX12_best_5 : decode cX12_best 5 = .ok (.ifCond .ne 7, 3) := by decide +kernel
theorem dX12_best_8 : decode cX12_best 8 = .ok (.iconst 1, 1) := by decide +kernel
theorem dX12_best_9 : decode cX12_best 9 = .ok (.goto 4, 3) := by decide +kernel
theorem dX12_best_12 : decode cX12_best 12 = .ok (.iconst 0, 1) := by decide +kernel
theorem dX12_best_13 : decode cX12_best 13 = .ok (.putfield 55, 3) := by decide +kernel
theorem dX12_best_16 : decode cX12_best 16 = .ok (.aload_n 0, 1) := by decide +kernel
theorem dX12_best_17 : decode cX12_best 17 = .ok (.getfield 55, 3) := by decide +kernel
theorem dX12_best_20 : decode cX12_best 20 = .ok (.ifCond .le 5, 3) := by decide +kernel
theorem dX12_best_23 : decode cX12_best 23 = .ok (.iconst 0, 1) := by decide +kernel
theorem dX12_best_24 : decode cX12_best 24 = .ok (.ireturn, 1) := by decide +kernel
theorem dX12_best_25 : decode cX12_best 25 = .ok (.iconst (-1), 1) := by decide +kernel
theorem dX12_best_26 : decode cX12_best 26 = .ok (.istore_n 2, 1) := by decide +kernel
theorem dX12_best_27 : decode cX12_best 27 = .ok (.iconst (-1), 1) := by decide +kernel
theorem dX12_best_28 : decode cX12_best 28 = .ok (.istore_n 3, 1) := by decide +kernel
theorem dX12_best_29 : decode cX12_best 29 = .ok (.iconst 0, 1) := by decide +kernel
theorem dX12_best_30 : decode cX12_best 30 = .ok (.istore 4, 2) := by decide +kernel
theorem dX12_best_32 : decode cX12_best 32 = .ok (.iload 4, 2) := by decide +kernel
theorem dX12_best_34 : decode cX12_best 34 = .ok (.aload_n 0, 1) := by decide +kernel
theorem dX12_best_35 : decode cX12_best 35 = .ok (.getfield 7, 3) := by decide +kernel
theorem dX12_best_38 : decode cX12_best 38 = .ok (.iconst 3, 1) := by decide +kernel
theorem dX12_best_39 : decode cX12_best 39 = .ok (.iaload, 1) := by decide +kernel
theorem dX12_best_40 : decode cX12_best 40 = .ok (.if_icmp .ge 55, 3) := by decide +kernel
theorem dX12_best_43 : decode cX12_best 43 = .ok (.aload_n 0, 1) := by decide +kernel
theorem dX12_best_44 : decode cX12_best 44 = .ok (.iload_n 1, 1) := by decide +kernel
theorem dX12_best_45 : decode cX12_best 45 = .ok (.iload 4, 2) := by decide +kernel
theorem dX12_best_47 : decode cX12_best 47 = .ok (.invokevirtual 316, 3) := by decide +kernel
theorem dX12_best_50 : decode cX12_best 50 = .ok (.istore 5, 2) := by decide +kernel
theorem dX12_best_52 : decode cX12_best 52 = .ok (.iload 5, 2) := by decide +kernel
theorem dX12_best_54 : decode cX12_best 54 = .ok (.iload_n 3, 1) := by decide +kernel
theorem dX12_best_55 : decode cX12_best 55 = .ok (.if_icmp .lt 34, 3) := by decide +kernel
theorem dX12_best_58 : decode cX12_best 58 = .ok (.iload 5, 2) := by decide +kernel
theorem dX12_best_60 : decode cX12_best 60 = .ok (.iload_n 3, 1) := by decide +kernel
theorem dX12_best_61 : decode cX12_best 61 = .ok (.if_icmp .ne 22, 3) := by decide +kernel
theorem dX12_best_64 : decode cX12_best 64 = .ok (.aload_n 0, 1) := by decide +kernel
theorem dX12_best_65 : decode cX12_best 65 = .ok (.iload 4, 2) := by decide +kernel
theorem dX12_best_67 : decode cX12_best 67 = .ok (.iconst 1, 1) := by decide +kernel
theorem dX12_best_68 : decode cX12_best 68 = .ok (.invokevirtual 283, 3) := by decide +kernel
theorem dX12_best_71 : decode cX12_best 71 = .ok (.aload_n 0, 1) := by decide +kernel
theorem dX12_best_72 : decode cX12_best 72 = .ok (.iload_n 2, 1) := by decide +kernel
theorem dX12_best_73 : decode cX12_best 73 = .ok (.iconst 1, 1) := by decide +kernel
theorem dX12_best_74 : decode cX12_best 74 = .ok (.invokevirtual 283, 3) := by decide +kernel
theorem dX12_best_77 : decode cX12_best 77 = .ok (.if_icmp .lt 6, 3) := by decide +kernel
theorem dX12_best_80 : decode cX12_best 80 = .ok (.goto 9, 3) := by decide +kernel
theorem dX12_best_83 : decode cX12_best 83 = .ok (.iload 5, 2) := by decide +kernel
theorem dX12_best_85 : decode cX12_best 85 = .ok (.istore_n 3, 1) := by decide +kernel
theorem dX12_best_86 : decode cX12_best 86 = .ok (.iload 4, 2) := by decide +kernel
theorem dX12_best_88 : decode cX12_best 88 = .ok (.istore_n 2, 1) := by decide +kernel
theorem dX12_best_89 : decode cX12_best 89 = .ok (.iinc 4 1, 3) := by decide +kernel
theorem dX12_best_92 : decode cX12_best 92 = .ok (.goto (-60), 3) := by decide +kernel
theorem dX12_best_95 : decode cX12_best 95 = .ok (.iload_n 2, 1) := by decide +kernel
theorem dX12_best_96 : decode cX12_best 96 = .ok (.ireturn, 1) := by decide +kernel
theorem dX12_from_0 : decode cX12_from 0 = .ok (.aload_n 0, 1) := by decide +kernel
theorem dX12_from_1 : decode cX12_from 1 = .ok (.getfield 38, 3) := by decide +kernel
theorem dX12_from_4 : decode cX12_from 4 = .ok (.sipush 161, 3) := by decide +kernel
theorem dX12_from_7 : decode cX12_from 7 = .ok (.iload_n 1, 1) := by decide +kernel
theorem dX12_from_8 : decode cX12_from 8 = .ok (.imul, 1) := by decide +kernel
theorem dX12_from_9 : decode cX12_from 9 = .ok (.sipush 160, 3) := by decide +kernel
theorem dX12_from_12 : decode cX12_from 12 = .ok (.iload_n 2, 1) := by decide +kernel
theorem dX12_from_13 : decode cX12_from 13 = .ok (.invokestatic 253, 3) := by decide +kernel
theorem dX12_from_16 : decode cX12_from 16 = .ok (.iadd, 1) := by decide +kernel
theorem dX12_from_17 : decode cX12_from 17 = .ok (.iaload, 1) := by decide +kernel
theorem dX12_from_18 : decode cX12_from 18 = .ok (.ireturn, 1) := by decide +kernel
theorem dX12_white_0 : decode cX12_white 0 = .ok (.aload_n 0, 1) := by decide +kernel
theorem dX12_white_1 : decode cX12_white 1 = .ok (.getfield 35, 3) := by decide +kernel
theorem dX12_white_4 : decode cX12_white 4 = .ok (.bipush 7, 2) := by decide +kernel
theorem dX12_white_6 : decode cX12_white 6 = .ok (.iload_n 1, 1) := by decide +kernel
theorem dX12_white_7 : decode cX12_white 7 = .ok (.imul, 1) := by decide +kernel
theorem dX12_white_8 : decode cX12_white 8 = .ok (.iload_n 2, 1) := by decide +kernel
theorem dX12_white_9 : decode cX12_white 9 = .ok (.iadd, 1) := by decide +kernel
theorem dX12_white_10 : decode cX12_white 10 = .ok (.iaload, 1) := by decide +kernel
theorem dX12_white_11 : decode cX12_white 11 = .ok (.ireturn, 1) := by decide +kernel
theorem dX12_costs_0 : decode cX12_costs 0 = .ok (.iload_n 1, 1) := by decide +kernel
theorem dX12_costs_1 : decode cX12_costs 1 = .ok (.ifCond .ne 7, 3) := by decide +kernel
theorem dX12_costs_4 : decode cX12_costs 4 = .ok (.iconst 0, 1) := by decide +kernel
theorem dX12_costs_5 : decode cX12_costs 5 = .ok (.goto 11, 3) := by decide +kernel
theorem dX12_costs_8 : decode cX12_costs 8 = .ok (.aload_n 0, 1) := by decide +kernel
theorem dX12_costs_9 : decode cX12_costs 9 = .ok (.iload_n 1, 1) := by decide +kernel
theorem dX12_costs_10 : decode cX12_costs 10 = .ok (.iconst 1, 1) := by decide +kernel
theorem dX12_costs_11 : decode cX12_costs 11 = .ok (.isub, 1) := by decide +kernel
theorem dX12_costs_12 : decode cX12_costs 12 = .ok (.iconst 1, 1) := by decide +kernel
theorem dX12_costs_13 : decode cX12_costs 13 = .ok (.invokevirtual 283, 3) := by decide +kernel
theorem dX12_costs_16 : decode cX12_costs 16 = .ok (.ireturn, 1) := by decide +kernel
theorem dX12_least_0 : decode cX12_least 0 = .ok (.aload_n 0, 1) := by decide +kernel
theorem dX12_least_1 : decode cX12_least 1 = .ok (.iload_n 2, 1) := by decide +kernel
theorem dX12_least_2 : decode cX12_least 2 = .ok (.iconst (-1), 1) := by decide +kernel
theorem dX12_least_3 : decode cX12_least 3 = .ok (.if_icmp .eq 14, 3) := by decide +kernel
theorem dX12_least_6 : decode cX12_least 6 = .ok (.iload_n 2, 1) := by decide +kernel
theorem dX12_least_7 : decode cX12_least 7 = .ok (.invokestatic 289, 3) := by decide +kernel
theorem dX12_least_10 : decode cX12_least 10 = .ok (.ifCond .ne 7, 3) := by decide +kernel
theorem dX12_least_13 : decode cX12_least 13 = .ok (.iconst 1, 1) := by decide +kernel
theorem dX12_least_14 : decode cX12_least 14 = .ok (.goto 19, 3) := by decide +kernel
theorem dX12_least_17 : decode cX12_least 17 = .ok (.iload_n 1, 1) := by decide +kernel
theorem dX12_least_18 : decode cX12_least 18 = .ok (.iconst 0, 1) := by decide +kernel
theorem dX12_least_19 : decode cX12_least 19 = .ok (.sipush 160, 3) := by decide +kernel
theorem dX12_least_22 : decode cX12_least 22 = .ok (.invokestatic 58, 3) := by decide +kernel
theorem dX12_least_25 : decode cX12_least 25 = .ok (.ifCond .ne 7, 3) := by decide +kernel
theorem dX12_least_28 : decode cX12_least 28 = .ok (.iconst 2, 1) := by decide +kernel
theorem dX12_least_29 : decode cX12_least 29 = .ok (.goto 4, 3) := by decide +kernel
theorem dX12_least_32 : decode cX12_least 32 = .ok (.iconst 0, 1) := by decide +kernel
theorem dX12_least_33 : decode cX12_least 33 = .ok (.putfield 55, 3) := by decide +kernel
theorem dX12_least_36 : decode cX12_least 36 = .ok (.aload_n 0, 1) := by decide +kernel
theorem dX12_least_37 : decode cX12_least 37 = .ok (.getfield 55, 3) := by decide +kernel
theorem dX12_least_40 : decode cX12_least 40 = .ok (.ifCond .le 5, 3) := by decide +kernel
theorem dX12_least_43 : decode cX12_least 43 = .ok (.iconst 0, 1) := by decide +kernel
theorem dX12_least_44 : decode cX12_least 44 = .ok (.ireturn, 1) := by decide +kernel
theorem dX12_least_45 : decode cX12_least 45 = .ok (.iconst 0, 1) := by decide +kernel
theorem dX12_least_46 : decode cX12_least 46 = .ok (.istore_n 3, 1) := by decide +kernel
theorem dX12_least_47 : decode cX12_least 47 = .ok (.iload_n 3, 1) := by decide +kernel
theorem dX12_least_48 : decode cX12_least 48 = .ok (.bipush 8, 2) := by decide +kernel
theorem dX12_least_50 : decode cX12_least 50 = .ok (.if_icmp .ge 50, 3) := by decide +kernel
theorem dX12_least_53 : decode cX12_least 53 = .ok (.iconst 0, 1) := by decide +kernel
theorem dX12_least_54 : decode cX12_least 54 = .ok (.istore 4, 2) := by decide +kernel
theorem dX12_least_56 : decode cX12_least 56 = .ok (.iload 4, 2) := by decide +kernel
theorem dX12_least_58 : decode cX12_least 58 = .ok (.aload_n 0, 1) := by decide +kernel
theorem dX12_least_59 : decode cX12_least 59 = .ok (.getfield 7, 3) := by decide +kernel
theorem dX12_least_62 : decode cX12_least 62 = .ok (.iconst 3, 1) := by decide +kernel
theorem dX12_least_63 : decode cX12_least 63 = .ok (.iaload, 1) := by decide +kernel
theorem dX12_least_64 : decode cX12_least 64 = .ok (.if_icmp .gt 30, 3) := by decide +kernel
theorem dX12_least_67 : decode cX12_least 67 = .ok (.aload_n 0, 1) := by decide +kernel
theorem dX12_least_68 : decode cX12_least 68 = .ok (.getfield 35, 3) := by decide +kernel
theorem dX12_least_71 : decode cX12_least 71 = .ok (.bipush 7, 2) := by decide +kernel
theorem dX12_least_73 : decode cX12_least 73 = .ok (.iload_n 3, 1) := by decide +kernel
theorem dX12_least_74 : decode cX12_least 74 = .ok (.imul, 1) := by decide +kernel
theorem dX12_least_75 : decode cX12_least 75 = .ok (.iload 4, 2) := by decide +kernel
theorem dX12_least_77 : decode cX12_least 77 = .ok (.iadd, 1) := by decide +kernel
theorem dX12_least_78 : decode cX12_least 78 = .ok (.aload_n 0, 1) := by decide +kernel
theorem dX12_least_79 : decode cX12_least 79 = .ok (.iload_n 3, 1) := by decide +kernel
theorem dX12_least_80 : decode cX12_least 80 = .ok (.iload 4, 2) := by decide +kernel
theorem dX12_least_82 : decode cX12_least 82 = .ok (.iconst 1, 1) := by decide +kernel
theorem dX12_least_83 : decode cX12_least 83 = .ok (.isub, 1) := by decide +kernel
theorem dX12_least_84 : decode cX12_least 84 = .ok (.invokevirtual 316, 3) := by decide +kernel
theorem dX12_least_87 : decode cX12_least 87 = .ok (.iastore, 1) := by decide +kernel
theorem dX12_least_88 : decode cX12_least 88 = .ok (.iinc 4 1, 3) := by decide +kernel
theorem dX12_least_91 : decode cX12_least 91 = .ok (.goto (-35), 3) := by decide +kernel
theorem dX12_least_94 : decode cX12_least 94 = .ok (.iinc 3 1, 3) := by decide +kernel
theorem dX12_least_97 : decode cX12_least 97 = .ok (.goto (-50), 3) := by decide +kernel
theorem dX12_least_100 : decode cX12_least 100 = .ok (.iconst 0, 1) := by decide +kernel
theorem dX12_least_101 : decode cX12_least 101 = .ok (.istore_n 3, 1) := by decide +kernel
theorem dX12_least_102 : decode cX12_least 102 = .ok (.iload_n 3, 1) := by decide +kernel
theorem dX12_least_103 : decode cX12_least 103 = .ok (.sipush 160, 3) := by decide +kernel
theorem dX12_least_106 : decode cX12_least 106 = .ok (.if_icmp .gt 31, 3) := by decide +kernel
theorem dX12_least_109 : decode cX12_least 109 = .ok (.aload_n 0, 1) := by decide +kernel
theorem dX12_least_110 : decode cX12_least 110 = .ok (.getfield 38, 3) := by decide +kernel
theorem dX12_least_113 : decode cX12_least 113 = .ok (.sipush 1288, 3) := by decide +kernel
theorem dX12_least_116 : decode cX12_least 116 = .ok (.iload_n 3, 1) := by decide +kernel
theorem dX12_least_117 : decode cX12_least 117 = .ok (.iadd, 1) := by decide +kernel
theorem dX12_least_118 : decode cX12_least 118 = .ok (.iload_n 3, 1) := by decide +kernel
theorem dX12_least_119 : decode cX12_least 119 = .ok (.iload_n 1, 1) := by decide +kernel
theorem dX12_least_120 : decode cX12_least 120 = .ok (.if_icmp .lt 7, 3) := by decide +kernel
theorem dX12_least_123 : decode cX12_least 123 = .ok (.iconst 0, 1) := by decide +kernel
theorem dX12_least_124 : decode cX12_least 124 = .ok (.goto 6, 3) := by decide +kernel
theorem dX12_least_127 : decode cX12_least 127 = .ok (.ldc_w 319, 3) := by decide +kernel
theorem dX12_least_130 : decode cX12_least 130 = .ok (.iastore, 1) := by decide +kernel
theorem dX12_least_131 : decode cX12_least 131 = .ok (.iinc 3 1, 3) := by decide +kernel
theorem dX12_least_134 : decode cX12_least 134 = .ok (.goto (-32), 3) := by decide +kernel
theorem dX12_least_137 : decode cX12_least 137 = .ok (.bipush 7, 2) := by decide +kernel
theorem dX12_least_139 : decode cX12_least 139 = .ok (.istore_n 3, 1) := by decide +kernel
theorem dX12_least_140 : decode cX12_least 140 = .ok (.iload_n 3, 1) := by decide +kernel
theorem dX12_least_141 : decode cX12_least 141 = .ok (.ifCond .lt 120, 3) := by decide +kernel
theorem dX12_least_144 : decode cX12_least 144 = .ok (.iconst 0, 1) := by decide +kernel
theorem dX12_least_145 : decode cX12_least 145 = .ok (.istore 4, 2) := by decide +kernel
theorem dX12_least_147 : decode cX12_least 147 = .ok (.iload 4, 2) := by decide +kernel
theorem dX12_least_149 : decode cX12_least 149 = .ok (.sipush 160, 3) := by decide +kernel
theorem dX12_least_152 : decode cX12_least 152 = .ok (.if_icmp .gt 103, 3) := by decide +kernel
theorem dX12_least_155 : decode cX12_least 155 = .ok (.ldc_w 319, 3) := by decide +kernel
theorem dX12_least_158 : decode cX12_least 158 = .ok (.istore 5, 2) := by decide +kernel
theorem dX12_least_160 : decode cX12_least 160 = .ok (.iconst 0, 1) := by decide +kernel
theorem dX12_least_161 : decode cX12_least 161 = .ok (.istore 6, 2) := by decide +kernel
theorem dX12_least_163 : decode cX12_least 163 = .ok (.iload 6, 2) := by decide +kernel
theorem dX12_least_165 : decode cX12_least 165 = .ok (.aload_n 0, 1) := by decide +kernel
theorem dX12_least_166 : decode cX12_least 166 = .ok (.getfield 7, 3) := by decide +kernel
theorem dX12_least_169 : decode cX12_least 169 = .ok (.iconst 3, 1) := by decide +kernel
theorem dX12_least_170 : decode cX12_least 170 = .ok (.iaload, 1) := by decide +kernel
theorem dX12_least_171 : decode cX12_least 171 = .ok (.if_icmp .gt 63, 3) := by decide +kernel
theorem dX12_least_174 : decode cX12_least 174 = .ok (.aload_n 0, 1) := by decide +kernel
theorem dX12_least_175 : decode cX12_least 175 = .ok (.iload_n 3, 1) := by decide +kernel
theorem dX12_least_176 : decode cX12_least 176 = .ok (.iconst 1, 1) := by decide +kernel
theorem dX12_least_177 : decode cX12_least 177 = .ok (.iadd, 1) := by decide +kernel
theorem dX12_least_178 : decode cX12_least 178 = .ok (.iload 4, 2) := by decide +kernel
theorem dX12_least_180 : decode cX12_least 180 = .ok (.aload_n 0, 1) := by decide +kernel
theorem dX12_least_181 : decode cX12_least 181 = .ok (.iload_n 3, 1) := by decide +kernel
theorem dX12_least_182 : decode cX12_least 182 = .ok (.iload 6, 2) := by decide +kernel
theorem dX12_least_184 : decode cX12_least 184 = .ok (.invokevirtual 320, 3) := by decide +kernel
theorem dX12_least_187 : decode cX12_least 187 = .ok (.iadd, 1) := by decide +kernel
theorem dX12_least_188 : decode cX12_least 188 = .ok (.invokevirtual 323, 3) := by decide +kernel
theorem dX12_least_191 : decode cX12_least 191 = .ok (.ldc_w 319, 3) := by decide +kernel
theorem dX12_least_194 : decode cX12_least 194 = .ok (.if_icmp .ge 34, 3) := by decide +kernel
theorem dX12_least_197 : decode cX12_least 197 = .ok (.iload 5, 2) := by decide +kernel
theorem dX12_least_199 : decode cX12_least 199 = .ok (.aload_n 0, 1) := by decide +kernel
theorem dX12_least_200 : decode cX12_least 200 = .ok (.iload 6, 2) := by decide +kernel
theorem dX12_least_202 : decode cX12_least 202 = .ok (.invokevirtual 326, 3) := by decide +kernel
theorem dX12_least_205 : decode cX12_least 205 = .ok (.aload_n 0, 1) := by decide +kernel
theorem dX12_least_206 : decode cX12_least 206 = .ok (.iload_n 3, 1) := by decide +kernel
theorem dX12_least_207 : decode cX12_least 207 = .ok (.iconst 1, 1) := by decide +kernel
theorem dX12_least_208 : decode cX12_least 208 = .ok (.iadd, 1) := by decide +kernel
theorem dX12_least_209 : decode cX12_least 209 = .ok (.iload 4, 2) := by decide +kernel
theorem dX12_least_211 : decode cX12_least 211 = .ok (.aload_n 0, 1) := by decide +kernel
theorem dX12_least_212 : decode cX12_least 212 = .ok (.iload_n 3, 1) := by decide +kernel
theorem dX12_least_213 : decode cX12_least 213 = .ok (.iload 6, 2) := by decide +kernel
theorem dX12_least_215 : decode cX12_least 215 = .ok (.invokevirtual 320, 3) := by decide +kernel
theorem dX12_least_218 : decode cX12_least 218 = .ok (.iadd, 1) := by decide +kernel
theorem dX12_least_219 : decode cX12_least 219 = .ok (.invokevirtual 323, 3) := by decide +kernel
theorem dX12_least_222 : decode cX12_least 222 = .ok (.iadd, 1) := by decide +kernel
theorem dX12_least_223 : decode cX12_least 223 = .ok (.invokestatic 253, 3) := by decide +kernel
theorem dX12_least_226 : decode cX12_least 226 = .ok (.istore 5, 2) := by decide +kernel
theorem dX12_least_228 : decode cX12_least 228 = .ok (.iinc 6 1, 3) := by decide +kernel
theorem dX12_least_231 : decode cX12_least 231 = .ok (.goto (-68), 3) := by decide +kernel
theorem dX12_least_234 : decode cX12_least 234 = .ok (.aload_n 0, 1) := by decide +kernel
theorem dX12_least_235 : decode cX12_least 235 = .ok (.getfield 38, 3) := by decide +kernel
theorem dX12_least_238 : decode cX12_least 238 = .ok (.sipush 161, 3) := by decide +kernel
theorem dX12_least_241 : decode cX12_least 241 = .ok (.iload_n 3, 1) := by decide +kernel
theorem dX12_least_242 : decode cX12_least 242 = .ok (.imul, 1) := by decide +kernel
theorem dX12_least_243 : decode cX12_least 243 = .ok (.iload 4, 2) := by decide +kernel
theorem dX12_least_245 : decode cX12_least 245 = .ok (.iadd, 1) := by decide +kernel
theorem dX12_least_246 : decode cX12_least 246 = .ok (.iload 5, 2) := by decide +kernel
theorem dX12_least_248 : decode cX12_least 248 = .ok (.iastore, 1) := by decide +kernel
theorem dX12_least_249 : decode cX12_least 249 = .ok (.iinc 4 1, 3) := by decide +kernel
theorem dX12_least_252 : decode cX12_least 252 = .ok (.goto (-105), 3) := by decide +kernel
theorem dX12_least_255 : decode cX12_least 255 = .ok (.iinc 3 (-1), 3) := by decide +kernel
theorem dX12_least_258 : decode cX12_least 258 = .ok (.goto (-118), 3) := by decide +kernel
theorem dX12_least_261 : decode cX12_least 261 = .ok (.aload_n 0, 1) := by decide +kernel
theorem dX12_least_262 : decode cX12_least 262 = .ok (.iconst 0, 1) := by decide +kernel
theorem dX12_least_263 : decode cX12_least 263 = .ok (.iconst 0, 1) := by decide +kernel
theorem dX12_least_264 : decode cX12_least 264 = .ok (.invokevirtual 323, 3) := by decide +kernel
theorem dX12_least_267 : decode cX12_least 267 = .ok (.ldc_w 319, 3) := by decide +kernel
theorem dX12_least_270 : decode cX12_least 270 = .ok (.if_icmp .ne 5, 3) := by decide +kernel
theorem dX12_least_273 : decode cX12_least 273 = .ok (.iconst (-1), 1) := by decide +kernel
theorem dX12_least_274 : decode cX12_least 274 = .ok (.ireturn, 1) := by decide +kernel
theorem dX12_least_275 : decode cX12_least 275 = .ok (.iload_n 2, 1) := by decide +kernel
theorem dX12_least_276 : decode cX12_least 276 = .ok (.iconst (-1), 1) := by decide +kernel
theorem dX12_least_277 : decode cX12_least 277 = .ok (.if_icmp .ne 10, 3) := by decide +kernel
theorem dX12_least_280 : decode cX12_least 280 = .ok (.aload_n 0, 1) := by decide +kernel
theorem dX12_least_281 : decode cX12_least 281 = .ok (.iconst 0, 1) := by decide +kernel
theorem dX12_least_282 : decode cX12_least 282 = .ok (.iconst 0, 1) := by decide +kernel
theorem dX12_least_283 : decode cX12_least 283 = .ok (.invokevirtual 323, 3) := by decide +kernel
theorem dX12_least_286 : decode cX12_least 286 = .ok (.ireturn, 1) := by decide +kernel
theorem dX12_least_287 : decode cX12_least 287 = .ok (.iconst 0, 1) := by decide +kernel
theorem dX12_least_288 : decode cX12_least 288 = .ok (.istore_n 3, 1) := by decide +kernel
theorem dX12_least_289 : decode cX12_least 289 = .ok (.iconst 0, 1) := by decide +kernel
theorem dX12_least_290 : decode cX12_least 290 = .ok (.istore 4, 2) := by decide +kernel
theorem dX12_least_292 : decode cX12_least 292 = .ok (.iconst 0, 1) := by decide +kernel
theorem dX12_least_293 : decode cX12_least 293 = .ok (.istore 5, 2) := by decide +kernel
theorem dX12_least_295 : decode cX12_least 295 = .ok (.iload 5, 2) := by decide +kernel
theorem dX12_least_297 : decode cX12_least 297 = .ok (.iload_n 2, 1) := by decide +kernel
theorem dX12_least_298 : decode cX12_least 298 = .ok (.if_icmp .gt 88, 3) := by decide +kernel
theorem dX12_least_301 : decode cX12_least 301 = .ok (.iconst 0, 1) := by decide +kernel
theorem dX12_least_302 : decode cX12_least 302 = .ok (.istore 4, 2) := by decide +kernel
theorem dX12_least_304 : decode cX12_least 304 = .ok (.aload_n 0, 1) := by decide +kernel
theorem dX12_least_305 : decode cX12_least 305 = .ok (.iload 5, 2) := by decide +kernel
theorem dX12_least_307 : decode cX12_least 307 = .ok (.iconst 1, 1) := by decide +kernel
theorem dX12_least_308 : decode cX12_least 308 = .ok (.iadd, 1) := by decide +kernel
theorem dX12_least_309 : decode cX12_least 309 = .ok (.iload_n 3, 1) := by decide +kernel
theorem dX12_least_310 : decode cX12_least 310 = .ok (.aload_n 0, 1) := by decide +kernel
theorem dX12_least_311 : decode cX12_least 311 = .ok (.iload 5, 2) := by decide +kernel
theorem dX12_least_313 : decode cX12_least 313 = .ok (.iload 4, 2) := by decide +kernel
theorem dX12_least_315 : decode cX12_least 315 = .ok (.invokevirtual 320, 3) := by decide +kernel
theorem dX12_least_318 : decode cX12_least 318 = .ok (.iadd, 1) := by decide +kernel
theorem dX12_least_319 : decode cX12_least 319 = .ok (.invokevirtual 323, 3) := by decide +kernel
theorem dX12_least_322 : decode cX12_least 322 = .ok (.ldc_w 319, 3) := by decide +kernel
theorem dX12_least_325 : decode cX12_least 325 = .ok (.if_icmp .eq 38, 3) := by decide +kernel
theorem dX12_least_328 : decode cX12_least 328 = .ok (.aload_n 0, 1) := by decide +kernel
theorem dX12_least_329 : decode cX12_least 329 = .ok (.iload 4, 2) := by decide +kernel
theorem dX12_least_331 : decode cX12_least 331 = .ok (.invokevirtual 326, 3) := by decide +kernel
theorem dX12_least_334 : decode cX12_least 334 = .ok (.aload_n 0, 1) := by decide +kernel
theorem dX12_least_335 : decode cX12_least 335 = .ok (.iload 5, 2) := by decide +kernel
theorem dX12_least_337 : decode cX12_least 337 = .ok (.iconst 1, 1) := by decide +kernel
theorem dX12_least_338 : decode cX12_least 338 = .ok (.iadd, 1) := by decide +kernel
theorem dX12_least_339 : decode cX12_least 339 = .ok (.iload_n 3, 1) := by decide +kernel
theorem dX12_least_340 : decode cX12_least 340 = .ok (.aload_n 0, 1) := by decide +kernel
theorem dX12_least_341 : decode cX12_least 341 = .ok (.iload 5, 2) := by decide +kernel
theorem dX12_least_343 : decode cX12_least 343 = .ok (.iload 4, 2) := by decide +kernel
theorem dX12_least_345 : decode cX12_least 345 = .ok (.invokevirtual 320, 3) := by decide +kernel
theorem dX12_least_348 : decode cX12_least 348 = .ok (.iadd, 1) := by decide +kernel
theorem dX12_least_349 : decode cX12_least 349 = .ok (.invokevirtual 323, 3) := by decide +kernel
theorem dX12_least_352 : decode cX12_least 352 = .ok (.iadd, 1) := by decide +kernel
theorem dX12_least_353 : decode cX12_least 353 = .ok (.aload_n 0, 1) := by decide +kernel
theorem dX12_least_354 : decode cX12_least 354 = .ok (.iload 5, 2) := by decide +kernel
theorem dX12_least_356 : decode cX12_least 356 = .ok (.iload_n 3, 1) := by decide +kernel
theorem dX12_least_357 : decode cX12_least 357 = .ok (.invokevirtual 323, 3) := by decide +kernel
theorem dX12_least_360 : decode cX12_least 360 = .ok (.if_icmp .eq 9, 3) := by decide +kernel
theorem dX12_least_363 : decode cX12_least 363 = .ok (.iinc 4 1, 3) := by decide +kernel
theorem dX12_least_366 : decode cX12_least 366 = .ok (.goto (-62), 3) := by decide +kernel
theorem dX12_least_369 : decode cX12_least 369 = .ok (.iload_n 3, 1) := by decide +kernel
theorem dX12_least_370 : decode cX12_least 370 = .ok (.aload_n 0, 1) := by decide +kernel
theorem dX12_least_371 : decode cX12_least 371 = .ok (.iload 5, 2) := by decide +kernel
theorem dX12_least_373 : decode cX12_least 373 = .ok (.iload 4, 2) := by decide +kernel
theorem dX12_least_375 : decode cX12_least 375 = .ok (.invokevirtual 320, 3) := by decide +kernel
theorem dX12_least_378 : decode cX12_least 378 = .ok (.iadd, 1) := by decide +kernel
theorem dX12_least_379 : decode cX12_least 379 = .ok (.istore_n 3, 1) := by decide +kernel
theorem dX12_least_380 : decode cX12_least 380 = .ok (.iinc 5 1, 3) := by decide +kernel
theorem dX12_least_383 : decode cX12_least 383 = .ok (.goto (-88), 3) := by decide +kernel
theorem dX12_least_386 : decode cX12_least 386 = .ok (.iload 4, 2) := by decide +kernel
theorem dX12_least_388 : decode cX12_least 388 = .ok (.iconst 1, 1) := by decide +kernel
theorem dX12_least_389 : decode cX12_least 389 = .ok (.isub, 1) := by decide +kernel
theorem dX12_least_390 : decode cX12_least 390 = .ok (.ireturn, 1) := by decide +kernel
theorem dX12_soaps_0 : decode cX12_soaps 0 = .ok (.aload_n 0, 1) := by decide +kernel
theorem dX12_soaps_1 : decode cX12_soaps 1 = .ok (.iload_n 1, 1) := by decide +kernel
theorem dX12_soaps_2 : decode cX12_soaps 2 = .ok (.invokestatic 289, 3) := by decide +kernel
theorem dX12_soaps_5 : decode cX12_soaps 5 = .ok (.ifCond .ne 7, 3) := by decide +kernel
theorem dX12_soaps_8 : decode cX12_soaps 8 = .ok (.iconst 1, 1) := by decide +kernel
theorem dX12_soaps_9 : decode cX12_soaps 9 = .ok (.goto 4, 3) := by decide +kernel
theorem dX12_soaps_12 : decode cX12_soaps 12 = .ok (.iconst 0, 1) := by decide +kernel
theorem dX12_soaps_13 : decode cX12_soaps 13 = .ok (.putfield 55, 3) := by decide +kernel
theorem dX12_soaps_16 : decode cX12_soaps 16 = .ok (.aload_n 0, 1) := by decide +kernel
theorem dX12_soaps_17 : decode cX12_soaps 17 = .ok (.getfield 55, 3) := by decide +kernel
theorem dX12_soaps_20 : decode cX12_soaps 20 = .ok (.ifCond .le 5, 3) := by decide +kernel
theorem dX12_soaps_23 : decode cX12_soaps 23 = .ok (.iconst 0, 1) := by decide +kernel
theorem dX12_soaps_24 : decode cX12_soaps 24 = .ok (.ireturn, 1) := by decide +kernel
theorem dX12_soaps_25 : decode cX12_soaps 25 = .ok (.aload_n 0, 1) := by decide +kernel
theorem dX12_soaps_26 : decode cX12_soaps 26 = .ok (.iload_n 1, 1) := by decide +kernel
theorem dX12_soaps_27 : decode cX12_soaps 27 = .ok (.iconst 3, 1) := by decide +kernel
theorem dX12_soaps_28 : decode cX12_soaps 28 = .ok (.invokevirtual 62, 3) := by decide +kernel
theorem dX12_soaps_31 : decode cX12_soaps 31 = .ok (.aload_n 0, 1) := by decide +kernel
theorem dX12_soaps_32 : decode cX12_soaps 32 = .ok (.iload_n 1, 1) := by decide +kernel
theorem dX12_soaps_33 : decode cX12_soaps 33 = .ok (.invokevirtual 295, 3) := by decide +kernel
theorem dX12_soaps_36 : decode cX12_soaps 36 = .ok (.iconst (-1), 1) := by decide +kernel
theorem dX12_soaps_37 : decode cX12_soaps 37 = .ok (.ixor, 1) := by decide +kernel
theorem dX12_soaps_38 : decode cX12_soaps 38 = .ok (.iand, 1) := by decide +kernel
theorem dX12_soaps_39 : decode cX12_soaps 39 = .ok (.istore_n 2, 1) := by decide +kernel
theorem dX12_soaps_40 : decode cX12_soaps 40 = .ok (.iconst (-1), 1) := by decide +kernel
theorem dX12_soaps_41 : decode cX12_soaps 41 = .ok (.istore_n 3, 1) := by decide +kernel
theorem dX12_soaps_42 : decode cX12_soaps 42 = .ok (.iconst 0, 1) := by decide +kernel
theorem dX12_soaps_43 : decode cX12_soaps 43 = .ok (.istore 4, 2) := by decide +kernel
theorem dX12_soaps_45 : decode cX12_soaps 45 = .ok (.iload 4, 2) := by decide +kernel
theorem dX12_soaps_47 : decode cX12_soaps 47 = .ok (.iconst 1, 1) := by decide +kernel
theorem dX12_soaps_48 : decode cX12_soaps 48 = .ok (.aload_n 0, 1) := by decide +kernel
theorem dX12_soaps_49 : decode cX12_soaps 49 = .ok (.getfield 7, 3) := by decide +kernel
theorem dX12_soaps_52 : decode cX12_soaps 52 = .ok (.iconst 3, 1) := by decide +kernel
theorem dX12_soaps_53 : decode cX12_soaps 53 = .ok (.iaload, 1) := by decide +kernel
theorem dX12_soaps_54 : decode cX12_soaps 54 = .ok (.ishl, 1) := by decide +kernel
theorem dX12_soaps_55 : decode cX12_soaps 55 = .ok (.if_icmp .ge 86, 3) := by decide +kernel
theorem dX12_soaps_58 : decode cX12_soaps 58 = .ok (.iload_n 2, 1) := by decide +kernel
theorem dX12_soaps_59 : decode cX12_soaps 59 = .ok (.istore 5, 2) := by decide +kernel
theorem dX12_soaps_61 : decode cX12_soaps 61 = .ok (.iconst 0, 1) := by decide +kernel
theorem dX12_soaps_62 : decode cX12_soaps 62 = .ok (.istore 6, 2) := by decide +kernel
theorem dX12_soaps_64 : decode cX12_soaps 64 = .ok (.iload 6, 2) := by decide +kernel
theorem dX12_soaps_66 : decode cX12_soaps 66 = .ok (.aload_n 0, 1) := by decide +kernel
theorem dX12_soaps_67 : decode cX12_soaps 67 = .ok (.getfield 7, 3) := by decide +kernel
theorem dX12_soaps_70 : decode cX12_soaps 70 = .ok (.iconst 3, 1) := by decide +kernel
theorem dX12_soaps_71 : decode cX12_soaps 71 = .ok (.iaload, 1) := by decide +kernel
theorem dX12_soaps_72 : decode cX12_soaps 72 = .ok (.if_icmp .ge 38, 3) := by decide +kernel
theorem dX12_soaps_75 : decode cX12_soaps 75 = .ok (.iload 5, 2) := by decide +kernel
theorem dX12_soaps_77 : decode cX12_soaps 77 = .ok (.iload 4, 2) := by decide +kernel
theorem dX12_soaps_79 : decode cX12_soaps 79 = .ok (.iload 6, 2) := by decide +kernel
theorem dX12_soaps_81 : decode cX12_soaps 81 = .ok (.invokestatic 108, 3) := by decide +kernel
theorem dX12_soaps_84 : decode cX12_soaps 84 = .ok (.ifCond .eq 15, 3) := by decide +kernel
theorem dX12_soaps_87 : decode cX12_soaps 87 = .ok (.aload_n 0, 1) := by decide +kernel
theorem dX12_soaps_88 : decode cX12_soaps 88 = .ok (.iload 6, 2) := by decide +kernel
theorem dX12_soaps_90 : decode cX12_soaps 90 = .ok (.iconst 3, 1) := by decide +kernel
theorem dX12_soaps_91 : decode cX12_soaps 91 = .ok (.invokevirtual 283, 3) := by decide +kernel
theorem dX12_soaps_94 : decode cX12_soaps 94 = .ok (.iconst (-1), 1) := by decide +kernel
theorem dX12_soaps_95 : decode cX12_soaps 95 = .ok (.ixor, 1) := by decide +kernel
theorem dX12_soaps_96 : decode cX12_soaps 96 = .ok (.goto 5, 3) := by decide +kernel
theorem dX12_soaps_99 : decode cX12_soaps 99 = .ok (.bipush 31, 2) := by decide +kernel
theorem dX12_soaps_101 : decode cX12_soaps 101 = .ok (.iand, 1) := by decide +kernel
theorem dX12_soaps_102 : decode cX12_soaps 102 = .ok (.istore 5, 2) := by decide +kernel
theorem dX12_soaps_104 : decode cX12_soaps 104 = .ok (.iinc 6 1, 3) := by decide +kernel
theorem dX12_soaps_107 : decode cX12_soaps 107 = .ok (.goto (-43), 3) := by decide +kernel
theorem dX12_soaps_110 : decode cX12_soaps 110 = .ok (.iload 5, 2) := by decide +kernel
theorem dX12_soaps_112 : decode cX12_soaps 112 = .ok (.ifCond .ne 23, 3) := by decide +kernel
theorem dX12_soaps_115 : decode cX12_soaps 115 = .ok (.iload_n 3, 1) := by decide +kernel
theorem dX12_soaps_116 : decode cX12_soaps 116 = .ok (.iconst (-1), 1) := by decide +kernel
theorem dX12_soaps_117 : decode cX12_soaps 117 = .ok (.if_icmp .eq 15, 3) := by decide +kernel
theorem dX12_soaps_120 : decode cX12_soaps 120 = .ok (.iload 4, 2) := by decide +kernel
theorem dX12_soaps_122 : decode cX12_soaps 122 = .ok (.invokestatic 247, 3) := by decide +kernel
theorem dX12_soaps_125 : decode cX12_soaps 125 = .ok (.iload_n 3, 1) := by decide +kernel
theorem dX12_soaps_126 : decode cX12_soaps 126 = .ok (.invokestatic 247, 3) := by decide +kernel
theorem dX12_soaps_129 : decode cX12_soaps 129 = .ok (.if_icmp .ge 6, 3) := by decide +kernel
theorem dX12_soaps_132 : decode cX12_soaps 132 = .ok (.iload 4, 2) := by decide +kernel
theorem dX12_soaps_134 : decode cX12_soaps 134 = .ok (.istore_n 3, 1) := by decide +kernel
theorem dX12_soaps_135 : decode cX12_soaps 135 = .ok (.iinc 4 1, 3) := by decide +kernel
theorem dX12_soaps_138 : decode cX12_soaps 138 = .ok (.goto (-93), 3) := by decide +kernel
theorem dX12_soaps_141 : decode cX12_soaps 141 = .ok (.iload_n 3, 1) := by decide +kernel
theorem dX12_soaps_142 : decode cX12_soaps 142 = .ok (.ireturn, 1) := by decide +kernel
theorem dX12_rounded_0 : decode cX12_rounded 0 = .ok (.iload_n 0, 1) := by decide +kernel
theorem dX12_rounded_1 : decode cX12_rounded 1 = .ok (.iload_n 1, 1) := by decide +kernel
theorem dX12_rounded_2 : decode cX12_rounded 2 = .ok (.iadd, 1) := by decide +kernel
theorem dX12_rounded_3 : decode cX12_rounded 3 = .ok (.iconst 1, 1) := by decide +kernel
theorem dX12_rounded_4 : decode cX12_rounded 4 = .ok (.isub, 1) := by decide +kernel
theorem dX12_rounded_5 : decode cX12_rounded 5 = .ok (.iload_n 1, 1) := by decide +kernel
theorem dX12_rounded_6 : decode cX12_rounded 6 = .ok (.idiv, 1) := by decide +kernel
theorem dX12_rounded_7 : decode cX12_rounded 7 = .ok (.ireturn, 1) := by decide +kernel
theorem dX12_washes_0 : decode cX12_washes 0 = .ok (.aload_n 0, 1) := by decide +kernel
theorem dX12_washes_1 : decode cX12_washes 1 = .ok (.iload_n 1, 1) := by decide +kernel
theorem dX12_washes_2 : decode cX12_washes 2 = .ok (.invokestatic 289, 3) := by decide +kernel
theorem dX12_washes_5 : decode cX12_washes 5 = .ok (.ifCond .eq 11, 3) := by decide +kernel
theorem dX12_washes_8 : decode cX12_washes 8 = .ok (.aload_n 0, 1) := by decide +kernel
theorem dX12_washes_9 : decode cX12_washes 9 = .ok (.iload_n 2, 1) := by decide +kernel
theorem dX12_washes_10 : decode cX12_washes 10 = .ok (.invokevirtual 298, 3) := by decide +kernel
theorem dX12_washes_13 : decode cX12_washes 13 = .ok (.ifCond .ne 7, 3) := by decide +kernel
theorem dX12_washes_16 : decode cX12_washes 16 = .ok (.iconst 1, 1) := by decide +kernel
theorem dX12_washes_17 : decode cX12_washes 17 = .ok (.goto 4, 3) := by decide +kernel
theorem dX12_washes_20 : decode cX12_washes 20 = .ok (.iconst 0, 1) := by decide +kernel
theorem dX12_washes_21 : decode cX12_washes 21 = .ok (.putfield 55, 3) := by decide +kernel
theorem dX12_washes_24 : decode cX12_washes 24 = .ok (.aload_n 0, 1) := by decide +kernel
theorem dX12_washes_25 : decode cX12_washes 25 = .ok (.getfield 55, 3) := by decide +kernel
theorem dX12_washes_28 : decode cX12_washes 28 = .ok (.ifCond .gt 12, 3) := by decide +kernel
theorem dX12_washes_31 : decode cX12_washes 31 = .ok (.aload_n 0, 1) := by decide +kernel
theorem dX12_washes_32 : decode cX12_washes 32 = .ok (.iload_n 1, 1) := by decide +kernel
theorem dX12_washes_33 : decode cX12_washes 33 = .ok (.iconst 0, 1) := by decide +kernel
theorem dX12_washes_34 : decode cX12_washes 34 = .ok (.invokevirtual 62, 3) := by decide +kernel
theorem dX12_washes_37 : decode cX12_washes 37 = .ok (.ifCond .ne 5, 3) := by decide +kernel
theorem dX12_washes_40 : decode cX12_washes 40 = .ok (.iconst 0, 1) := by decide +kernel
theorem dX12_washes_41 : decode cX12_washes 41 = .ok (.ireturn, 1) := by decide +kernel
theorem dX12_washes_42 : decode cX12_washes 42 = .ok (.aload_n 0, 1) := by decide +kernel
theorem dX12_washes_43 : decode cX12_washes 43 = .ok (.iload_n 2, 1) := by decide +kernel
theorem dX12_washes_44 : decode cX12_washes 44 = .ok (.iconst 0, 1) := by decide +kernel
theorem dX12_washes_45 : decode cX12_washes 45 = .ok (.invokevirtual 283, 3) := by decide +kernel
theorem dX12_washes_48 : decode cX12_washes 48 = .ok (.ifCond .ne 7, 3) := by decide +kernel
theorem dX12_washes_51 : decode cX12_washes 51 = .ok (.iconst (-1), 1) := by decide +kernel
theorem dX12_washes_52 : decode cX12_washes 52 = .ok (.goto 18, 3) := by decide +kernel
theorem dX12_washes_55 : decode cX12_washes 55 = .ok (.aload_n 0, 1) := by decide +kernel
theorem dX12_washes_56 : decode cX12_washes 56 = .ok (.iload_n 1, 1) := by decide +kernel
theorem dX12_washes_57 : decode cX12_washes 57 = .ok (.iconst 0, 1) := by decide +kernel
theorem dX12_washes_58 : decode cX12_washes 58 = .ok (.invokevirtual 62, 3) := by decide +kernel
theorem dX12_washes_61 : decode cX12_washes 61 = .ok (.aload_n 0, 1) := by decide +kernel
theorem dX12_washes_62 : decode cX12_washes 62 = .ok (.iload_n 2, 1) := by decide +kernel
theorem dX12_washes_63 : decode cX12_washes 63 = .ok (.iconst 0, 1) := by decide +kernel
theorem dX12_washes_64 : decode cX12_washes 64 = .ok (.invokevirtual 283, 3) := by decide +kernel
theorem dX12_washes_67 : decode cX12_washes 67 = .ok (.invokestatic 329, 3) := by decide +kernel
theorem dX12_washes_70 : decode cX12_washes 70 = .ok (.ireturn, 1) := by decide +kernel
theorem dX12_wears_0 : decode cX12_wears 0 = .ok (.aload_n 0, 1) := by decide +kernel
theorem dX12_wears_1 : decode cX12_wears 1 = .ok (.iload_n 1, 1) := by decide +kernel
theorem dX12_wears_2 : decode cX12_wears 2 = .ok (.invokestatic 289, 3) := by decide +kernel
theorem dX12_wears_5 : decode cX12_wears 5 = .ok (.ifCond .eq 11, 3) := by decide +kernel
theorem dX12_wears_8 : decode cX12_wears 8 = .ok (.aload_n 0, 1) := by decide +kernel
theorem dX12_wears_9 : decode cX12_wears 9 = .ok (.iload_n 2, 1) := by decide +kernel
theorem dX12_wears_10 : decode cX12_wears 10 = .ok (.invokevirtual 298, 3) := by decide +kernel
theorem dX12_wears_13 : decode cX12_wears 13 = .ok (.ifCond .ne 7, 3) := by decide +kernel
theorem dX12_wears_16 : decode cX12_wears 16 = .ok (.iconst 1, 1) := by decide +kernel
theorem dX12_wears_17 : decode cX12_wears 17 = .ok (.goto 4, 3) := by decide +kernel
theorem dX12_wears_20 : decode cX12_wears 20 = .ok (.iconst 0, 1) := by decide +kernel
theorem dX12_wears_21 : decode cX12_wears 21 = .ok (.putfield 55, 3) := by decide +kernel
theorem dX12_wears_24 : decode cX12_wears 24 = .ok (.aload_n 0, 1) := by decide +kernel
theorem dX12_wears_25 : decode cX12_wears 25 = .ok (.getfield 55, 3) := by decide +kernel
theorem dX12_wears_28 : decode cX12_wears 28 = .ok (.ifCond .le 7, 3) := by decide +kernel
theorem dX12_wears_31 : decode cX12_wears 31 = .ok (.iconst 0, 1) := by decide +kernel
theorem dX12_wears_32 : decode cX12_wears 32 = .ok (.goto 23, 3) := by decide +kernel
theorem dX12_wears_35 : decode cX12_wears 35 = .ok (.bipush 9, 2) := by decide +kernel
theorem dX12_wears_37 : decode cX12_wears 37 = .ok (.aload_n 0, 1) := by decide +kernel
theorem dX12_wears_38 : decode cX12_wears 38 = .ok (.iload_n 1, 1) := by decide +kernel
theorem dX12_wears_39 : decode cX12_wears 39 = .ok (.iconst 1, 1) := by decide +kernel
theorem dX12_wears_40 : decode cX12_wears 40 = .ok (.invokevirtual 62, 3) := by decide +kernel
theorem dX12_wears_43 : decode cX12_wears 43 = .ok (.isub, 1) := by decide +kernel
theorem dX12_wears_44 : decode cX12_wears 44 = .ok (.iconst 1, 1) := by decide +kernel
theorem dX12_wears_45 : decode cX12_wears 45 = .ok (.aload_n 0, 1) := by decide +kernel
theorem dX12_wears_46 : decode cX12_wears 46 = .ok (.iload_n 2, 1) := by decide +kernel
theorem dX12_wears_47 : decode cX12_wears 47 = .ok (.iconst 2, 1) := by decide +kernel
theorem dX12_wears_48 : decode cX12_wears 48 = .ok (.invokevirtual 283, 3) := by decide +kernel
theorem dX12_wears_51 : decode cX12_wears 51 = .ok (.iadd, 1) := by decide +kernel
theorem dX12_wears_52 : decode cX12_wears 52 = .ok (.invokestatic 329, 3) := by decide +kernel
theorem dX12_wears_55 : decode cX12_wears 55 = .ok (.ireturn, 1) := by decide +kernel
theorem dX12_drySoon_0 : decode cX12_drySoon 0 = .ok (.aload_n 0, 1) := by decide +kernel
theorem dX12_drySoon_1 : decode cX12_drySoon 1 = .ok (.invokevirtual 174, 3) := by decide +kernel
theorem dX12_drySoon_4 : decode cX12_drySoon 4 = .ok (.ldc_w 319, 3) := by decide +kernel
theorem dX12_drySoon_7 : decode cX12_drySoon 7 = .ok (.istore_n 3, 1) := by decide +kernel
theorem dX12_drySoon_8 : decode cX12_drySoon 8 = .ok (.iconst 0, 1) := by decide +kernel
theorem dX12_drySoon_9 : decode cX12_drySoon 9 = .ok (.istore 4, 2) := by decide +kernel
theorem dX12_drySoon_11 : decode cX12_drySoon 11 = .ok (.iload 4, 2) := by decide +kernel
theorem dX12_drySoon_13 : decode cX12_drySoon 13 = .ok (.bipush 40, 2) := by decide +kernel
theorem dX12_drySoon_15 : decode cX12_drySoon 15 = .ok (.if_icmp .gt 47, 3) := by decide +kernel
theorem dX12_drySoon_18 : decode cX12_drySoon 18 = .ok (.iload_n 3, 1) := by decide +kernel
theorem dX12_drySoon_19 : decode cX12_drySoon 19 = .ok (.ldc_w 319, 3) := by decide +kernel
theorem dX12_drySoon_22 : decode cX12_drySoon 22 = .ok (.if_icmp .ne 40, 3) := by decide +kernel
theorem dX12_drySoon_25 : decode cX12_drySoon 25 = .ok (.aload_n 0, 1) := by decide +kernel
theorem dX12_drySoon_26 : decode cX12_drySoon 26 = .ok (.iload_n 1, 1) := by decide +kernel
theorem dX12_drySoon_27 : decode cX12_drySoon 27 = .ok (.iconst 2, 1) := by decide +kernel
theorem dX12_drySoon_28 : decode cX12_drySoon 28 = .ok (.invokevirtual 62, 3) := by decide +kernel
theorem dX12_drySoon_31 : decode cX12_drySoon 31 = .ok (.ifCond .ne 6, 3) := by decide +kernel
theorem dX12_drySoon_34 : decode cX12_drySoon 34 = .ok (.iload 4, 2) := by decide +kernel
theorem dX12_drySoon_36 : decode cX12_drySoon 36 = .ok (.istore_n 3, 1) := by decide +kernel
theorem dX12_drySoon_37 : decode cX12_drySoon 37 = .ok (.aload_n 0, 1) := by decide +kernel
theorem dX12_drySoon_38 : decode cX12_drySoon 38 = .ok (.getfield 7, 3) := by decide +kernel
theorem dX12_drySoon_41 : decode cX12_drySoon 41 = .ok (.bipush 10, 2) := by decide +kernel
theorem dX12_drySoon_43 : decode cX12_drySoon 43 = .ok (.iload_n 2, 1) := by decide +kernel
theorem dX12_drySoon_44 : decode cX12_drySoon 44 = .ok (.iastore, 1) := by decide +kernel
theorem dX12_drySoon_45 : decode cX12_drySoon 45 = .ok (.aload_n 0, 1) := by decide +kernel
theorem dX12_drySoon_46 : decode cX12_drySoon 46 = .ok (.iload_n 1, 1) := by decide +kernel
theorem dX12_drySoon_47 : decode cX12_drySoon 47 = .ok (.invokevirtual 269, 3) := by decide +kernel
theorem dX12_drySoon_50 : decode cX12_drySoon 50 = .ok (.istore 5, 2) := by decide +kernel
theorem dX12_drySoon_52 : decode cX12_drySoon 52 = .ok (.aload_n 0, 1) := by decide +kernel
theorem dX12_drySoon_53 : decode cX12_drySoon 53 = .ok (.invokevirtual 278, 3) := by decide +kernel
theorem dX12_drySoon_56 : decode cX12_drySoon 56 = .ok (.iinc 4 1, 3) := by decide +kernel
theorem dX12_drySoon_59 : decode cX12_drySoon 59 = .ok (.goto (-48), 3) := by decide +kernel
theorem dX12_drySoon_62 : decode cX12_drySoon 62 = .ok (.aload_n 0, 1) := by decide +kernel
theorem dX12_drySoon_63 : decode cX12_drySoon 63 = .ok (.invokevirtual 184, 3) := by decide +kernel
theorem dX12_drySoon_66 : decode cX12_drySoon 66 = .ok (.iload_n 3, 1) := by decide +kernel
theorem dX12_drySoon_67 : decode cX12_drySoon 67 = .ok (.ireturn, 1) := by decide +kernel
theorem dX12_dried_0 : decode cX12_dried 0 = .ok (.aload_n 0, 1) := by decide +kernel
theorem dX12_dried_1 : decode cX12_dried 1 = .ok (.iload_n 1, 1) := by decide +kernel
theorem dX12_dried_2 : decode cX12_dried 2 = .ok (.invokestatic 289, 3) := by decide +kernel
theorem dX12_dried_5 : decode cX12_dried 5 = .ok (.ifCond .ne 7, 3) := by decide +kernel
theorem dX12_dried_8 : decode cX12_dried 8 = .ok (.iconst 1, 1) := by decide +kernel
theorem dX12_dried_9 : decode cX12_dried 9 = .ok (.goto 18, 3) := by decide +kernel
theorem dX12_dried_12 : decode cX12_dried 12 = .ok (.iload_n 2, 1) := by decide +kernel
theorem dX12_dried_13 : decode cX12_dried 13 = .ok (.iconst 0, 1) := by decide +kernel
theorem dX12_dried_14 : decode cX12_dried 14 = .ok (.bipush 9, 2) := by decide +kernel
theorem dX12_dried_16 : decode cX12_dried 16 = .ok (.invokestatic 58, 3) := by decide +kernel
theorem dX12_dried_19 : decode cX12_dried 19 = .ok (.ifCond .ne 7, 3) := by decide +kernel
theorem dX12_dried_22 : decode cX12_dried 22 = .ok (.iconst 2, 1) := by decide +kernel
theorem dX12_dried_23 : decode cX12_dried 23 = .ok (.goto 4, 3) := by decide +kernel
theorem dX12_dried_26 : decode cX12_dried 26 = .ok (.iconst 0, 1) := by decide +kernel
theorem dX12_dried_27 : decode cX12_dried 27 = .ok (.putfield 55, 3) := by decide +kernel
theorem dX12_dried_30 : decode cX12_dried 30 = .ok (.aload_n 0, 1) := by decide +kernel
theorem dX12_dried_31 : decode cX12_dried 31 = .ok (.getfield 55, 3) := by decide +kernel
theorem dX12_dried_34 : decode cX12_dried 34 = .ok (.ifCond .le 5, 3) := by decide +kernel
theorem dX12_dried_37 : decode cX12_dried 37 = .ok (.iconst 0, 1) := by decide +kernel
theorem dX12_dried_38 : decode cX12_dried 38 = .ok (.ireturn, 1) := by decide +kernel
theorem dX12_dried_39 : decode cX12_dried 39 = .ok (.aload_n 0, 1) := by decide +kernel
theorem dX12_dried_40 : decode cX12_dried 40 = .ok (.iload_n 1, 1) := by decide +kernel
theorem dX12_dried_41 : decode cX12_dried 41 = .ok (.iload_n 2, 1) := by decide +kernel
theorem dX12_dried_42 : decode cX12_dried 42 = .ok (.invokevirtual 332, 3) := by decide +kernel
theorem dX12_dried_45 : decode cX12_dried 45 = .ok (.istore_n 3, 1) := by decide +kernel
theorem dX12_dried_46 : decode cX12_dried 46 = .ok (.iload_n 3, 1) := by decide +kernel
theorem dX12_dried_47 : decode cX12_dried 47 = .ok (.ldc_w 319, 3) := by decide +kernel
theorem dX12_dried_50 : decode cX12_dried 50 = .ok (.if_icmp .ne 7, 3) := by decide +kernel
theorem dX12_dried_53 : decode cX12_dried 53 = .ok (.iconst (-1), 1) := by decide +kernel
theorem dX12_dried_54 : decode cX12_dried 54 = .ok (.goto 4, 3) := by decide +kernel
theorem dX12_dried_57 : decode cX12_dried 57 = .ok (.iload_n 3, 1) := by decide +kernel
theorem dX12_dried_58 : decode cX12_dried 58 = .ok (.ireturn, 1) := by decide +kernel
theorem dX12_find_0 : decode cX12_find 0 = .ok (.iload_n 1, 1) := by decide +kernel
theorem dX12_find_1 : decode cX12_find 1 = .ok (.bipush 8, 2) := by decide +kernel
theorem dX12_find_3 : decode cX12_find 3 = .ok (.if_icmp .ne 5, 3) := by decide +kernel
theorem dX12_find_6 : decode cX12_find 6 = .ok (.iconst 1, 1) := by decide +kernel
theorem dX12_find_7 : decode cX12_find 7 = .ok (.ireturn, 1) := by decide +kernel
theorem dX12_find_8 : decode cX12_find 8 = .ok (.iconst 0, 1) := by decide +kernel
theorem dX12_find_9 : decode cX12_find 9 = .ok (.istore 4, 2) := by decide +kernel
theorem dX12_find_11 : decode cX12_find 11 = .ok (.iload 4, 2) := by decide +kernel
theorem dX12_find_13 : decode cX12_find 13 = .ok (.bipush 8, 2) := by decide +kernel
theorem dX12_find_15 : decode cX12_find 15 = .ok (.if_icmp .ge 53, 3) := by decide +kernel
theorem dX12_find_18 : decode cX12_find 18 = .ok (.iload_n 2, 1) := by decide +kernel
theorem dX12_find_19 : decode cX12_find 19 = .ok (.iload 4, 2) := by decide +kernel
theorem dX12_find_21 : decode cX12_find 21 = .ok (.invokestatic 108, 3) := by decide +kernel
theorem dX12_find_24 : decode cX12_find 24 = .ok (.ifCond .ne 38, 3) := by decide +kernel
theorem dX12_find_27 : decode cX12_find 27 = .ok (.aload_n 0, 1) := by decide +kernel
theorem dX12_find_28 : decode cX12_find 28 = .ok (.getfield 41, 3) := by decide +kernel
theorem dX12_find_31 : decode cX12_find 31 = .ok (.bipush 8, 2) := by decide +kernel
theorem dX12_find_33 : decode cX12_find 33 = .ok (.iload_n 1, 1) := by decide +kernel
theorem dX12_find_34 : decode cX12_find 34 = .ok (.imul, 1) := by decide +kernel
theorem dX12_find_35 : decode cX12_find 35 = .ok (.iload 4, 2) := by decide +kernel
theorem dX12_find_37 : decode cX12_find 37 = .ok (.iadd, 1) := by decide +kernel
theorem dX12_find_38 : decode cX12_find 38 = .ok (.iaload, 1) := by decide +kernel
theorem dX12_find_39 : decode cX12_find 39 = .ok (.iload_n 3, 1) := by decide +kernel
theorem dX12_find_40 : decode cX12_find 40 = .ok (.if_icmp .gt 22, 3) := by decide +kernel
theorem dX12_find_43 : decode cX12_find 43 = .ok (.aload_n 0, 1) := by decide +kernel
theorem dX12_find_44 : decode cX12_find 44 = .ok (.iload_n 1, 1) := by decide +kernel
theorem dX12_find_45 : decode cX12_find 45 = .ok (.iconst 1, 1) := by decide +kernel
theorem dX12_find_46 : decode cX12_find 46 = .ok (.iadd, 1) := by decide +kernel
theorem dX12_find_47 : decode cX12_find 47 = .ok (.iload_n 2, 1) := by decide +kernel
theorem dX12_find_48 : decode cX12_find 48 = .ok (.iconst 1, 1) := by decide +kernel
theorem dX12_find_49 : decode cX12_find 49 = .ok (.iload 4, 2) := by decide +kernel
theorem dX12_find_51 : decode cX12_find 51 = .ok (.ishl, 1) := by decide +kernel
theorem dX12_find_52 : decode cX12_find 52 = .ok (.ior, 1) := by decide +kernel
theorem dX12_find_53 : decode cX12_find 53 = .ok (.iload_n 3, 1) := by decide +kernel
theorem dX12_find_54 : decode cX12_find 54 = .ok (.invokevirtual 335, 3) := by decide +kernel
theorem dX12_find_57 : decode cX12_find 57 = .ok (.ifCond .eq 5, 3) := by decide +kernel
theorem dX12_find_60 : decode cX12_find 60 = .ok (.iconst 1, 1) := by decide +kernel
theorem dX12_find_61 : decode cX12_find 61 = .ok (.ireturn, 1) := by decide +kernel
theorem dX12_find_62 : decode cX12_find 62 = .ok (.iinc 4 1, 3) := by decide +kernel
theorem dX12_find_65 : decode cX12_find 65 = .ok (.goto (-54), 3) := by decide +kernel
theorem dX12_find_68 : decode cX12_find 68 = .ok (.iconst 0, 1) := by decide +kernel
theorem dX12_find_69 : decode cX12_find 69 = .ok (.ireturn, 1) := by decide +kernel
theorem dX12_soonest_0 : decode cX12_soonest 0 = .ok (.aload_n 0, 1) := by decide +kernel
theorem dX12_soonest_1 : decode cX12_soonest 1 = .ok (.iload_n 2, 1) := by decide +kernel
theorem dX12_soonest_2 : decode cX12_soonest 2 = .ok (.iconst (-1), 1) := by decide +kernel
theorem dX12_soonest_3 : decode cX12_soonest 3 = .ok (.if_icmp .eq 14, 3) := by decide +kernel
theorem dX12_soonest_6 : decode cX12_soonest 6 = .ok (.iload_n 2, 1) := by decide +kernel
theorem dX12_soonest_7 : decode cX12_soonest 7 = .ok (.invokestatic 289, 3) := by decide +kernel
theorem dX12_soonest_10 : decode cX12_soonest 10 = .ok (.ifCond .ne 7, 3) := by decide +kernel
theorem dX12_soonest_13 : decode cX12_soonest 13 = .ok (.iconst 1, 1) := by decide +kernel
theorem dX12_soonest_14 : decode cX12_soonest 14 = .ok (.goto 18, 3) := by decide +kernel
theorem dX12_soonest_17 : decode cX12_soonest 17 = .ok (.iload_n 1, 1) := by decide +kernel
theorem dX12_soonest_18 : decode cX12_soonest 18 = .ok (.iconst 0, 1) := by decide +kernel
theorem dX12_soonest_19 : decode cX12_soonest 19 = .ok (.bipush 9, 2) := by decide +kernel
theorem dX12_soonest_21 : decode cX12_soonest 21 = .ok (.invokestatic 58, 3) := by decide +kernel
theorem dX12_soonest_24 : decode cX12_soonest 24 = .ok (.ifCond .ne 7, 3) := by decide +kernel
theorem dX12_soonest_27 : decode cX12_soonest 27 = .ok (.iconst 2, 1) := by decide +kernel
theorem dX12_soonest_28 : decode cX12_soonest 28 = .ok (.goto 4, 3) := by decide +kernel
theorem dX12_soonest_31 : decode cX12_soonest 31 = .ok (.iconst 0, 1) := by decide +kernel
theorem dX12_soonest_32 : decode cX12_soonest 32 = .ok (.putfield 55, 3) := by decide +kernel
theorem dX12_soonest_35 : decode cX12_soonest 35 = .ok (.aload_n 0, 1) := by decide +kernel
theorem dX12_soonest_36 : decode cX12_soonest 36 = .ok (.getfield 55, 3) := by decide +kernel
theorem dX12_soonest_39 : decode cX12_soonest 39 = .ok (.ifCond .le 5, 3) := by decide +kernel
theorem dX12_soonest_42 : decode cX12_soonest 42 = .ok (.iconst 0, 1) := by decide +kernel
theorem dX12_soonest_43 : decode cX12_soonest 43 = .ok (.ireturn, 1) := by decide +kernel
theorem dX12_soonest_44 : decode cX12_soonest 44 = .ok (.iconst 0, 1) := by decide +kernel
theorem dX12_soonest_45 : decode cX12_soonest 45 = .ok (.istore_n 3, 1) := by decide +kernel
theorem dX12_soonest_46 : decode cX12_soonest 46 = .ok (.iload_n 3, 1) := by decide +kernel
theorem dX12_soonest_47 : decode cX12_soonest 47 = .ok (.bipush 8, 2) := by decide +kernel
theorem dX12_soonest_49 : decode cX12_soonest 49 = .ok (.if_icmp .ge 80, 3) := by decide +kernel
theorem dX12_soonest_52 : decode cX12_soonest 52 = .ok (.aload_n 0, 1) := by decide +kernel
theorem dX12_soonest_53 : decode cX12_soonest 53 = .ok (.iload_n 3, 1) := by decide +kernel
theorem dX12_soonest_54 : decode cX12_soonest 54 = .ok (.iconst 5, 1) := by decide +kernel
theorem dX12_soonest_55 : decode cX12_soonest 55 = .ok (.invokevirtual 62, 3) := by decide +kernel
theorem dX12_soonest_58 : decode cX12_soonest 58 = .ok (.istore 4, 2) := by decide +kernel
theorem dX12_soonest_60 : decode cX12_soonest 60 = .ok (.iconst 0, 1) := by decide +kernel
theorem dX12_soonest_61 : decode cX12_soonest 61 = .ok (.istore 5, 2) := by decide +kernel
theorem dX12_soonest_63 : decode cX12_soonest 63 = .ok (.iload 5, 2) := by decide +kernel
theorem dX12_soonest_65 : decode cX12_soonest 65 = .ok (.bipush 8, 2) := by decide +kernel
theorem dX12_soonest_67 : decode cX12_soonest 67 = .ok (.if_icmp .ge 48, 3) := by decide +kernel
theorem dX12_soonest_70 : decode cX12_soonest 70 = .ok (.aload_n 0, 1) := by decide +kernel
theorem dX12_soonest_71 : decode cX12_soonest 71 = .ok (.iload_n 3, 1) := by decide +kernel
theorem dX12_soonest_72 : decode cX12_soonest 72 = .ok (.iconst 5, 1) := by decide +kernel
theorem dX12_soonest_73 : decode cX12_soonest 73 = .ok (.iload 5, 2) := by decide +kernel
theorem dX12_soonest_75 : decode cX12_soonest 75 = .ok (.invokevirtual 51, 3) := by decide +kernel
theorem dX12_soonest_78 : decode cX12_soonest 78 = .ok (.aload_n 0, 1) := by decide +kernel
theorem dX12_soonest_79 : decode cX12_soonest 79 = .ok (.getfield 41, 3) := by decide +kernel
theorem dX12_soonest_82 : decode cX12_soonest 82 = .ok (.bipush 8, 2) := by decide +kernel
theorem dX12_soonest_84 : decode cX12_soonest 84 = .ok (.iload_n 3, 1) := by decide +kernel
theorem dX12_soonest_85 : decode cX12_soonest 85 = .ok (.imul, 1) := by decide +kernel
theorem dX12_soonest_86 : decode cX12_soonest 86 = .ok (.iload 5, 2) := by decide +kernel
theorem dX12_soonest_88 : decode cX12_soonest 88 = .ok (.iadd, 1) := by decide +kernel
theorem dX12_soonest_89 : decode cX12_soonest 89 = .ok (.aload_n 0, 1) := by decide +kernel
theorem dX12_soonest_90 : decode cX12_soonest 90 = .ok (.iload_n 3, 1) := by decide +kernel
theorem dX12_soonest_91 : decode cX12_soonest 91 = .ok (.iconst 4, 1) := by decide +kernel
theorem dX12_soonest_92 : decode cX12_soonest 92 = .ok (.invokevirtual 62, 3) := by decide +kernel
theorem dX12_soonest_95 : decode cX12_soonest 95 = .ok (.ifCond .ne 7, 3) := by decide +kernel
theorem dX12_soonest_98 : decode cX12_soonest 98 = .ok (.iconst 0, 1) := by decide +kernel
theorem dX12_soonest_99 : decode cX12_soonest 99 = .ok (.goto 9, 3) := by decide +kernel
theorem dX12_soonest_102 : decode cX12_soonest 102 = .ok (.aload_n 0, 1) := by decide +kernel
theorem dX12_soonest_103 : decode cX12_soonest 103 = .ok (.iload_n 3, 1) := by decide +kernel
theorem dX12_soonest_104 : decode cX12_soonest 104 = .ok (.iload_n 1, 1) := by decide +kernel
theorem dX12_soonest_105 : decode cX12_soonest 105 = .ok (.invokevirtual 332, 3) := by decide +kernel
theorem dX12_soonest_108 : decode cX12_soonest 108 = .ok (.iastore, 1) := by decide +kernel
theorem dX12_soonest_109 : decode cX12_soonest 109 = .ok (.iinc 5 1, 3) := by decide +kernel
theorem dX12_soonest_112 : decode cX12_soonest 112 = .ok (.goto (-49), 3) := by decide +kernel
theorem dX12_soonest_115 : decode cX12_soonest 115 = .ok (.aload_n 0, 1) := by decide +kernel
theorem dX12_soonest_116 : decode cX12_soonest 116 = .ok (.iload_n 3, 1) := by decide +kernel
theorem dX12_soonest_117 : decode cX12_soonest 117 = .ok (.iconst 5, 1) := by decide +kernel
theorem dX12_soonest_118 : decode cX12_soonest 118 = .ok (.iload 4, 2) := by decide +kernel
theorem dX12_soonest_120 : decode cX12_soonest 120 = .ok (.invokevirtual 51, 3) := by decide +kernel
theorem dX12_soonest_123 : decode cX12_soonest 123 = .ok (.iinc 3 1, 3) := by decide +kernel
theorem dX12_soonest_126 : decode cX12_soonest 126 = .ok (.goto (-80), 3) := by decide +kernel
theorem dX12_soonest_129 : decode cX12_soonest 129 = .ok (.iconst 0, 1) := by decide +kernel
theorem dX12_soonest_130 : decode cX12_soonest 130 = .ok (.istore_n 3, 1) := by decide +kernel
theorem dX12_soonest_131 : decode cX12_soonest 131 = .ok (.iload_n 3, 1) := by decide +kernel
theorem dX12_soonest_132 : decode cX12_soonest 132 = .ok (.bipush 40, 2) := by decide +kernel
theorem dX12_soonest_134 : decode cX12_soonest 134 = .ok (.if_icmp .gt 19, 3) := by decide +kernel
theorem dX12_soonest_137 : decode cX12_soonest 137 = .ok (.aload_n 0, 1) := by decide +kernel
theorem dX12_soonest_138 : decode cX12_soonest 138 = .ok (.iconst 0, 1) := by decide +kernel
theorem dX12_soonest_139 : decode cX12_soonest 139 = .ok (.iconst 0, 1) := by decide +kernel
theorem dX12_soonest_140 : decode cX12_soonest 140 = .ok (.iload_n 3, 1) := by decide +kernel
theorem dX12_soonest_141 : decode cX12_soonest 141 = .ok (.invokevirtual 335, 3) := by decide +kernel
theorem dX12_soonest_144 : decode cX12_soonest 144 = .ok (.ifCond .ne 9, 3) := by decide +kernel
theorem dX12_soonest_147 : decode cX12_soonest 147 = .ok (.iinc 3 1, 3) := by decide +kernel
theorem dX12_soonest_150 : decode cX12_soonest 150 = .ok (.goto (-19), 3) := by decide +kernel
theorem dX12_soonest_153 : decode cX12_soonest 153 = .ok (.iload_n 3, 1) := by decide +kernel
theorem dX12_soonest_154 : decode cX12_soonest 154 = .ok (.bipush 40, 2) := by decide +kernel
theorem dX12_soonest_156 : decode cX12_soonest 156 = .ok (.if_icmp .le 5, 3) := by decide +kernel
theorem dX12_soonest_159 : decode cX12_soonest 159 = .ok (.iconst (-1), 1) := by decide +kernel
theorem dX12_soonest_160 : decode cX12_soonest 160 = .ok (.ireturn, 1) := by decide +kernel
theorem dX12_soonest_161 : decode cX12_soonest 161 = .ok (.iload_n 2, 1) := by decide +kernel
theorem dX12_soonest_162 : decode cX12_soonest 162 = .ok (.iconst (-1), 1) := by decide +kernel
theorem dX12_soonest_163 : decode cX12_soonest 163 = .ok (.if_icmp .ne 5, 3) := by decide +kernel
theorem dX12_soonest_166 : decode cX12_soonest 166 = .ok (.iload_n 3, 1) := by decide +kernel
theorem dX12_soonest_167 : decode cX12_soonest 167 = .ok (.ireturn, 1) := by decide +kernel
theorem dX12_soonest_168 : decode cX12_soonest 168 = .ok (.iconst 0, 1) := by decide +kernel
theorem dX12_soonest_169 : decode cX12_soonest 169 = .ok (.istore 4, 2) := by decide +kernel
theorem dX12_soonest_171 : decode cX12_soonest 171 = .ok (.iconst 0, 1) := by decide +kernel
theorem dX12_soonest_172 : decode cX12_soonest 172 = .ok (.istore 5, 2) := by decide +kernel
theorem dX12_soonest_174 : decode cX12_soonest 174 = .ok (.iconst 0, 1) := by decide +kernel
theorem dX12_soonest_175 : decode cX12_soonest 175 = .ok (.istore 6, 2) := by decide +kernel
theorem dX12_soonest_177 : decode cX12_soonest 177 = .ok (.iload 6, 2) := by decide +kernel
theorem dX12_soonest_179 : decode cX12_soonest 179 = .ok (.iload_n 2, 1) := by decide +kernel
theorem dX12_soonest_180 : decode cX12_soonest 180 = .ok (.if_icmp .gt 73, 3) := by decide +kernel
theorem dX12_soonest_183 : decode cX12_soonest 183 = .ok (.iconst 0, 1) := by decide +kernel
theorem dX12_soonest_184 : decode cX12_soonest 184 = .ok (.istore 5, 2) := by decide +kernel
theorem dX12_soonest_186 : decode cX12_soonest 186 = .ok (.iload 4, 2) := by decide +kernel
theorem dX12_soonest_188 : decode cX12_soonest 188 = .ok (.iload 5, 2) := by decide +kernel
theorem dX12_soonest_190 : decode cX12_soonest 190 = .ok (.invokestatic 108, 3) := by decide +kernel
theorem dX12_soonest_193 : decode cX12_soonest 193 = .ok (.ifCond .ne 39, 3) := by decide +kernel
theorem dX12_soonest_196 : decode cX12_soonest 196 = .ok (.aload_n 0, 1) := by decide +kernel
theorem dX12_soonest_197 : decode cX12_soonest 197 = .ok (.getfield 41, 3) := by decide +kernel
theorem dX12_soonest_200 : decode cX12_soonest 200 = .ok (.bipush 8, 2) := by decide +kernel
theorem dX12_soonest_202 : decode cX12_soonest 202 = .ok (.iload 6, 2) := by decide +kernel
theorem dX12_soonest_204 : decode cX12_soonest 204 = .ok (.imul, 1) := by decide +kernel
theorem dX12_soonest_205 : decode cX12_soonest 205 = .ok (.iload 5, 2) := by decide +kernel
theorem dX12_soonest_207 : decode cX12_soonest 207 = .ok (.iadd, 1) := by decide +kernel
theorem dX12_soonest_208 : decode cX12_soonest 208 = .ok (.iaload, 1) := by decide +kernel
theorem dX12_soonest_209 : decode cX12_soonest 209 = .ok (.iload_n 3, 1) := by decide +kernel
theorem dX12_soonest_210 : decode cX12_soonest 210 = .ok (.if_icmp .gt 22, 3) := by decide +kernel
theorem dX12_soonest_213 : decode cX12_soonest 213 = .ok (.aload_n 0, 1) := by decide +kernel
theorem dX12_soonest_214 : decode cX12_soonest 214 = .ok (.iload 6, 2) := by decide +kernel
theorem dX12_soonest_216 : decode cX12_soonest 216 = .ok (.iconst 1, 1) := by decide +kernel
theorem dX12_soonest_217 : decode cX12_soonest 217 = .ok (.iadd, 1) := by decide +kernel
theorem dX12_soonest_218 : decode cX12_soonest 218 = .ok (.iload 4, 2) := by decide +kernel
theorem dX12_soonest_220 : decode cX12_soonest 220 = .ok (.iconst 1, 1) := by decide +kernel
theorem dX12_soonest_221 : decode cX12_soonest 221 = .ok (.iload 5, 2) := by decide +kernel
theorem dX12_soonest_223 : decode cX12_soonest 223 = .ok (.ishl, 1) := by decide +kernel
theorem dX12_soonest_224 : decode cX12_soonest 224 = .ok (.ior, 1) := by decide +kernel
theorem dX12_soonest_225 : decode cX12_soonest 225 = .ok (.iload_n 3, 1) := by decide +kernel
theorem dX12_soonest_226 : decode cX12_soonest 226 = .ok (.invokevirtual 335, 3) := by decide +kernel
theorem dX12_soonest_229 : decode cX12_soonest 229 = .ok (.ifCond .ne 9, 3) := by decide +kernel
theorem dX12_soonest_232 : decode cX12_soonest 232 = .ok (.iinc 5 1, 3) := by decide +kernel
theorem dX12_soonest_235 : decode cX12_soonest 235 = .ok (.goto (-49), 3) := by decide +kernel
theorem dX12_soonest_238 : decode cX12_soonest 238 = .ok (.iload 4, 2) := by decide +kernel
theorem dX12_soonest_240 : decode cX12_soonest 240 = .ok (.iconst 1, 1) := by decide +kernel
theorem dX12_soonest_241 : decode cX12_soonest 241 = .ok (.iload 5, 2) := by decide +kernel
theorem dX12_soonest_243 : decode cX12_soonest 243 = .ok (.ishl, 1) := by decide +kernel
theorem dX12_soonest_244 : decode cX12_soonest 244 = .ok (.ior, 1) := by decide +kernel
theorem dX12_soonest_245 : decode cX12_soonest 245 = .ok (.istore 4, 2) := by decide +kernel
theorem dX12_soonest_247 : decode cX12_soonest 247 = .ok (.iinc 6 1, 3) := by decide +kernel
theorem dX12_soonest_250 : decode cX12_soonest 250 = .ok (.goto (-73), 3) := by decide +kernel
theorem dX12_soonest_253 : decode cX12_soonest 253 = .ok (.iload 5, 2) := by decide +kernel
theorem dX12_soonest_255 : decode cX12_soonest 255 = .ok (.ireturn, 1) := by decide +kernel
theorem dX12_ahead__0 : decode cX12_ahead_ 0 = .ok (.aload_n 0, 1) := by decide +kernel
theorem dX12_ahead__1 : decode cX12_ahead_ 1 = .ok (.iload_n 1, 1) := by decide +kernel
theorem dX12_ahead__2 : decode cX12_ahead_ 2 = .ok (.invokestatic 289, 3) := by decide +kernel
theorem dX12_ahead__5 : decode cX12_ahead_ 5 = .ok (.ifCond .ne 7, 3) := by decide +kernel
theorem dX12_ahead__8 : decode cX12_ahead_ 8 = .ok (.iconst 1, 1) := by decide +kernel
theorem dX12_ahead__9 : decode cX12_ahead_ 9 = .ok (.goto 42, 3) := by decide +kernel
theorem dX12_ahead__12 : decode cX12_ahead_ 12 = .ok (.iload_n 2, 1) := by decide +kernel
theorem dX12_ahead__13 : decode cX12_ahead_ 13 = .ok (.iconst 0, 1) := by decide +kernel
theorem dX12_ahead__14 : decode cX12_ahead_ 14 = .ok (.bipush 40, 2) := by decide +kernel
theorem dX12_ahead__16 : decode cX12_ahead_ 16 = .ok (.invokestatic 58, 3) := by decide +kernel
theorem dX12_ahead__19 : decode cX12_ahead_ 19 = .ok (.ifCond .eq 13, 3) := by decide +kernel
theorem dX12_ahead__22 : decode cX12_ahead_ 22 = .ok (.iload_n 3, 1) := by decide +kernel
theorem dX12_ahead__23 : decode cX12_ahead_ 23 = .ok (.iconst 0, 1) := by decide +kernel
theorem dX12_ahead__24 : decode cX12_ahead_ 24 = .ok (.bipush 9, 2) := by decide +kernel
theorem dX12_ahead__26 : decode cX12_ahead_ 26 = .ok (.invokestatic 58, 3) := by decide +kernel
theorem dX12_ahead__29 : decode cX12_ahead_ 29 = .ok (.ifCond .ne 7, 3) := by decide +kernel
theorem dX12_ahead__32 : decode cX12_ahead_ 32 = .ok (.iconst 2, 1) := by decide +kernel
theorem dX12_ahead__33 : decode cX12_ahead_ 33 = .ok (.goto 18, 3) := by decide +kernel
theorem dX12_ahead__36 : decode cX12_ahead_ 36 = .ok (.iload 4, 2) := by decide +kernel
theorem dX12_ahead__38 : decode cX12_ahead_ 38 = .ok (.iconst 0, 1) := by decide +kernel
theorem dX12_ahead__39 : decode cX12_ahead_ 39 = .ok (.iconst 2, 1) := by decide +kernel
theorem dX12_ahead__40 : decode cX12_ahead_ 40 = .ok (.invokestatic 58, 3) := by decide +kernel
theorem dX12_ahead__43 : decode cX12_ahead_ 43 = .ok (.ifCond .ne 7, 3) := by decide +kernel
theorem dX12_ahead__46 : decode cX12_ahead_ 46 = .ok (.iconst 3, 1) := by decide +kernel
theorem dX12_ahead__47 : decode cX12_ahead_ 47 = .ok (.goto 4, 3) := by decide +kernel
theorem dX12_ahead__50 : decode cX12_ahead_ 50 = .ok (.iconst 0, 1) := by decide +kernel
theorem dX12_ahead__51 : decode cX12_ahead_ 51 = .ok (.putfield 55, 3) := by decide +kernel
theorem dX12_ahead__54 : decode cX12_ahead_ 54 = .ok (.aload_n 0, 1) := by decide +kernel
theorem dX12_ahead__55 : decode cX12_ahead_ 55 = .ok (.getfield 55, 3) := by decide +kernel
theorem dX12_ahead__58 : decode cX12_ahead_ 58 = .ok (.ifCond .le 5, 3) := by decide +kernel
theorem dX12_ahead__61 : decode cX12_ahead_ 61 = .ok (.iconst 0, 1) := by decide +kernel
theorem dX12_ahead__62 : decode cX12_ahead_ 62 = .ok (.ireturn, 1) := by decide +kernel
theorem dX12_ahead__63 : decode cX12_ahead_ 63 = .ok (.aload_n 0, 1) := by decide +kernel
theorem dX12_ahead__64 : decode cX12_ahead_ 64 = .ok (.invokevirtual 174, 3) := by decide +kernel
theorem dX12_ahead__67 : decode cX12_ahead_ 67 = .ok (.iconst 0, 1) := by decide +kernel
theorem dX12_ahead__68 : decode cX12_ahead_ 68 = .ok (.istore 5, 2) := by decide +kernel
theorem dX12_ahead__70 : decode cX12_ahead_ 70 = .ok (.iload 5, 2) := by decide +kernel
theorem dX12_ahead__72 : decode cX12_ahead_ 72 = .ok (.iload_n 2, 1) := by decide +kernel
theorem dX12_ahead__73 : decode cX12_ahead_ 73 = .ok (.if_icmp .ge 14, 3) := by decide +kernel
theorem dX12_ahead__76 : decode cX12_ahead_ 76 = .ok (.aload_n 0, 1) := by decide +kernel
theorem dX12_ahead__77 : decode cX12_ahead_ 77 = .ok (.iload_n 3, 1) := by decide +kernel
theorem dX12_ahead__78 : decode cX12_ahead_ 78 = .ok (.invokevirtual 338, 3) := by decide +kernel
theorem dX12_ahead__81 : decode cX12_ahead_ 81 = .ok (.iinc 5 1, 3) := by decide +kernel
theorem dX12_ahead__84 : decode cX12_ahead_ 84 = .ok (.goto (-14), 3) := by decide +kernel
theorem dX12_ahead__87 : decode cX12_ahead_ 87 = .ok (.iload 4, 2) := by decide +kernel
theorem dX12_ahead__89 : decode cX12_ahead_ 89 = .ok (.ifCond .ne 12, 3) := by decide +kernel
theorem dX12_ahead__92 : decode cX12_ahead_ 92 = .ok (.aload_n 0, 1) := by decide +kernel
theorem dX12_ahead__93 : decode cX12_ahead_ 93 = .ok (.iload_n 1, 1) := by decide +kernel
theorem dX12_ahead__94 : decode cX12_ahead_ 94 = .ok (.iconst 2, 1) := by decide +kernel
theorem dX12_ahead__95 : decode cX12_ahead_ 95 = .ok (.invokevirtual 62, 3) := by decide +kernel
theorem dX12_ahead__98 : decode cX12_ahead_ 98 = .ok (.goto 23, 3) := by decide +kernel
theorem dX12_ahead__101 : decode cX12_ahead_ 101 = .ok (.iload 4, 2) := by decide +kernel
theorem dX12_ahead__103 : decode cX12_ahead_ 103 = .ok (.iconst 1, 1) := by decide +kernel
theorem dX12_ahead__104 : decode cX12_ahead_ 104 = .ok (.if_icmp .ne 12, 3) := by decide +kernel
theorem dX12_ahead__107 : decode cX12_ahead_ 107 = .ok (.aload_n 0, 1) := by decide +kernel
theorem dX12_ahead__108 : decode cX12_ahead_ 108 = .ok (.iload_n 1, 1) := by decide +kernel
theorem dX12_ahead__109 : decode cX12_ahead_ 109 = .ok (.iconst 0, 1) := by decide +kernel
theorem dX12_ahead__110 : decode cX12_ahead_ 110 = .ok (.invokevirtual 62, 3) := by decide +kernel
theorem dX12_ahead__113 : decode cX12_ahead_ 113 = .ok (.goto 8, 3) := by decide +kernel
theorem dX12_ahead__116 : decode cX12_ahead_ 116 = .ok (.aload_n 0, 1) := by decide +kernel
theorem dX12_ahead__117 : decode cX12_ahead_ 117 = .ok (.iload_n 1, 1) := by decide +kernel
theorem dX12_ahead__118 : decode cX12_ahead_ 118 = .ok (.invokevirtual 262, 3) := by decide +kernel
theorem dX12_ahead__121 : decode cX12_ahead_ 121 = .ok (.istore 5, 2) := by decide +kernel
theorem dX12_ahead__123 : decode cX12_ahead_ 123 = .ok (.aload_n 0, 1) := by decide +kernel
theorem dX12_ahead__124 : decode cX12_ahead_ 124 = .ok (.invokevirtual 184, 3) := by decide +kernel
theorem dX12_ahead__127 : decode cX12_ahead_ 127 = .ok (.iload 5, 2) := by decide +kernel
theorem dX12_ahead__129 : decode cX12_ahead_ 129 = .ok (.ireturn, 1) := by decide +kernel
theorem dX12_tide_0 : decode cX12_tide 0 = .ok (.aload_n 0, 1) := by decide +kernel
theorem dX12_tide_1 : decode cX12_tide 1 = .ok (.iload_n 1, 1) := by decide +kernel
theorem dX12_tide_2 : decode cX12_tide 2 = .ok (.iconst 0, 1) := by decide +kernel
theorem dX12_tide_3 : decode cX12_tide 3 = .ok (.sipush 160, 3) := by decide +kernel
theorem dX12_tide_6 : decode cX12_tide 6 = .ok (.invokestatic 58, 3) := by decide +kernel
theorem dX12_tide_9 : decode cX12_tide 9 = .ok (.ifCond .eq 13, 3) := by decide +kernel
theorem dX12_tide_12 : decode cX12_tide 12 = .ok (.iload_n 2, 1) := by decide +kernel
theorem dX12_tide_13 : decode cX12_tide 13 = .ok (.iconst 0, 1) := by decide +kernel
theorem dX12_tide_14 : decode cX12_tide 14 = .ok (.bipush 9, 2) := by decide +kernel
theorem dX12_tide_16 : decode cX12_tide 16 = .ok (.invokestatic 58, 3) := by decide +kernel
theorem dX12_tide_19 : decode cX12_tide 19 = .ok (.ifCond .ne 7, 3) := by decide +kernel
theorem dX12_tide_22 : decode cX12_tide 22 = .ok (.iconst 1, 1) := by decide +kernel
theorem dX12_tide_23 : decode cX12_tide 23 = .ok (.goto 4, 3) := by decide +kernel
theorem dX12_tide_26 : decode cX12_tide 26 = .ok (.iconst 0, 1) := by decide +kernel
theorem dX12_tide_27 : decode cX12_tide 27 = .ok (.putfield 55, 3) := by decide +kernel
theorem dX12_tide_30 : decode cX12_tide 30 = .ok (.aload_n 0, 1) := by decide +kernel
theorem dX12_tide_31 : decode cX12_tide 31 = .ok (.getfield 55, 3) := by decide +kernel
theorem dX12_tide_34 : decode cX12_tide 34 = .ok (.ifCond .le 5, 3) := by decide +kernel
theorem dX12_tide_37 : decode cX12_tide 37 = .ok (.iconst 0, 1) := by decide +kernel
theorem dX12_tide_38 : decode cX12_tide 38 = .ok (.ireturn, 1) := by decide +kernel
theorem dX12_tide_39 : decode cX12_tide 39 = .ok (.aload_n 0, 1) := by decide +kernel
theorem dX12_tide_40 : decode cX12_tide 40 = .ok (.invokevirtual 174, 3) := by decide +kernel
theorem dX12_tide_43 : decode cX12_tide 43 = .ok (.iconst (-1), 1) := by decide +kernel
theorem dX12_tide_44 : decode cX12_tide 44 = .ok (.istore_n 3, 1) := by decide +kernel
theorem dX12_tide_45 : decode cX12_tide 45 = .ok (.iconst 0, 1) := by decide +kernel
theorem dX12_tide_46 : decode cX12_tide 46 = .ok (.istore 4, 2) := by decide +kernel
theorem dX12_tide_48 : decode cX12_tide 48 = .ok (.iload 4, 2) := by decide +kernel
theorem dX12_tide_50 : decode cX12_tide 50 = .ok (.bipush 40, 2) := by decide +kernel
theorem dX12_tide_52 : decode cX12_tide 52 = .ok (.if_icmp .gt 30, 3) := by decide +kernel
theorem dX12_tide_55 : decode cX12_tide 55 = .ok (.iload_n 3, 1) := by decide +kernel
theorem dX12_tide_56 : decode cX12_tide 56 = .ok (.iconst (-1), 1) := by decide +kernel
theorem dX12_tide_57 : decode cX12_tide 57 = .ok (.if_icmp .ne 25, 3) := by decide +kernel
theorem dX12_tide_60 : decode cX12_tide 60 = .ok (.aload_n 0, 1) := by decide +kernel
theorem dX12_tide_61 : decode cX12_tide 61 = .ok (.invokevirtual 286, 3) := by decide +kernel
theorem dX12_tide_64 : decode cX12_tide 64 = .ok (.iload_n 1, 1) := by decide +kernel
theorem dX12_tide_65 : decode cX12_tide 65 = .ok (.if_icmp .lt 6, 3) := by decide +kernel
theorem dX12_tide_68 : decode cX12_tide 68 = .ok (.iload 4, 2) := by decide +kernel
theorem dX12_tide_70 : decode cX12_tide 70 = .ok (.istore_n 3, 1) := by decide +kernel
theorem dX12_tide_71 : decode cX12_tide 71 = .ok (.aload_n 0, 1) := by decide +kernel
theorem dX12_tide_72 : decode cX12_tide 72 = .ok (.iload_n 2, 1) := by decide +kernel
theorem dX12_tide_73 : decode cX12_tide 73 = .ok (.invokevirtual 338, 3) := by decide +kernel
theorem dX12_tide_76 : decode cX12_tide 76 = .ok (.iinc 4 1, 3) := by decide +kernel
theorem dX12_tide_79 : decode cX12_tide 79 = .ok (.goto (-31), 3) := by decide +kernel
theorem dX12_tide_82 : decode cX12_tide 82 = .ok (.aload_n 0, 1) := by decide +kernel
theorem dX12_tide_83 : decode cX12_tide 83 = .ok (.invokevirtual 184, 3) := by decide +kernel
theorem dX12_tide_86 : decode cX12_tide 86 = .ok (.iload_n 3, 1) := by decide +kernel
theorem dX12_tide_87 : decode cX12_tide 87 = .ok (.ireturn, 1) := by decide +kernel
theorem dX12_late_0 : decode cX12_late 0 = .ok (.aload_n 0, 1) := by decide +kernel
theorem dX12_late_1 : decode cX12_late 1 = .ok (.iload_n 1, 1) := by decide +kernel
theorem dX12_late_2 : decode cX12_late 2 = .ok (.iconst 0, 1) := by decide +kernel
theorem dX12_late_3 : decode cX12_late 3 = .ok (.bipush 9, 2) := by decide +kernel
theorem dX12_late_5 : decode cX12_late 5 = .ok (.invokestatic 58, 3) := by decide +kernel
theorem dX12_late_8 : decode cX12_late 8 = .ok (.ifCond .ne 7, 3) := by decide +kernel
theorem dX12_late_11 : decode cX12_late 11 = .ok (.iconst 1, 1) := by decide +kernel
theorem dX12_late_12 : decode cX12_late 12 = .ok (.goto 4, 3) := by decide +kernel
theorem dX12_late_15 : decode cX12_late 15 = .ok (.iconst 0, 1) := by decide +kernel
theorem dX12_late_16 : decode cX12_late 16 = .ok (.putfield 55, 3) := by decide +kernel
theorem dX12_late_19 : decode cX12_late 19 = .ok (.aload_n 0, 1) := by decide +kernel
theorem dX12_late_20 : decode cX12_late 20 = .ok (.getfield 55, 3) := by decide +kernel
theorem dX12_late_23 : decode cX12_late 23 = .ok (.ifCond .le 5, 3) := by decide +kernel
theorem dX12_late_26 : decode cX12_late 26 = .ok (.iconst 0, 1) := by decide +kernel
theorem dX12_late_27 : decode cX12_late 27 = .ok (.ireturn, 1) := by decide +kernel
theorem dX12_late_28 : decode cX12_late 28 = .ok (.aload_n 0, 1) := by decide +kernel
theorem dX12_late_29 : decode cX12_late 29 = .ok (.invokevirtual 174, 3) := by decide +kernel
theorem dX12_late_32 : decode cX12_late 32 = .ok (.aload_n 0, 1) := by decide +kernel
theorem dX12_late_33 : decode cX12_late 33 = .ok (.getfield 7, 3) := by decide +kernel
theorem dX12_late_36 : decode cX12_late 36 = .ok (.bipush 9, 2) := by decide +kernel
theorem dX12_late_38 : decode cX12_late 38 = .ok (.iaload, 1) := by decide +kernel
theorem dX12_late_39 : decode cX12_late 39 = .ok (.istore_n 2, 1) := by decide +kernel
theorem dX12_late_40 : decode cX12_late 40 = .ok (.iconst 0, 1) := by decide +kernel
theorem dX12_late_41 : decode cX12_late 41 = .ok (.istore_n 3, 1) := by decide +kernel
theorem dX12_late_42 : decode cX12_late 42 = .ok (.iconst 0, 1) := by decide +kernel
theorem dX12_late_43 : decode cX12_late 43 = .ok (.istore 4, 2) := by decide +kernel
theorem dX12_late_45 : decode cX12_late 45 = .ok (.iload 4, 2) := by decide +kernel
theorem dX12_late_47 : decode cX12_late 47 = .ok (.bipush 40, 2) := by decide +kernel
theorem dX12_late_49 : decode cX12_late 49 = .ok (.if_icmp .gt 89, 3) := by decide +kernel
theorem dX12_late_52 : decode cX12_late 52 = .ok (.aload_n 0, 1) := by decide +kernel
theorem dX12_late_53 : decode cX12_late 53 = .ok (.invokevirtual 286, 3) := by decide +kernel
theorem dX12_late_56 : decode cX12_late 56 = .ok (.istore 5, 2) := by decide +kernel
theorem dX12_late_58 : decode cX12_late 58 = .ok (.iconst 0, 1) := by decide +kernel
theorem dX12_late_59 : decode cX12_late 59 = .ok (.istore 6, 2) := by decide +kernel
theorem dX12_late_61 : decode cX12_late 61 = .ok (.iload 6, 2) := by decide +kernel
theorem dX12_late_63 : decode cX12_late 63 = .ok (.aload_n 0, 1) := by decide +kernel
theorem dX12_late_64 : decode cX12_late 64 = .ok (.getfield 7, 3) := by decide +kernel
theorem dX12_late_67 : decode cX12_late 67 = .ok (.iconst 4, 1) := by decide +kernel
theorem dX12_late_68 : decode cX12_late 68 = .ok (.iaload, 1) := by decide +kernel
theorem dX12_late_69 : decode cX12_late 69 = .ok (.if_icmp .ge 58, 3) := by decide +kernel
theorem dX12_late_72 : decode cX12_late 72 = .ok (.iload_n 3, 1) := by decide +kernel
theorem dX12_late_73 : decode cX12_late 73 = .ok (.aload_n 0, 1) := by decide +kernel
theorem dX12_late_74 : decode cX12_late 74 = .ok (.getfield 7, 3) := by decide +kernel
theorem dX12_late_77 : decode cX12_late 77 = .ok (.bipush 94, 2) := by decide +kernel
theorem dX12_late_79 : decode cX12_late 79 = .ok (.iconst 2, 1) := by decide +kernel
theorem dX12_late_80 : decode cX12_late 80 = .ok (.iload 6, 2) := by decide +kernel
theorem dX12_late_82 : decode cX12_late 82 = .ok (.imul, 1) := by decide +kernel
theorem dX12_late_83 : decode cX12_late 83 = .ok (.iadd, 1) := by decide +kernel
theorem dX12_late_84 : decode cX12_late 84 = .ok (.iaload, 1) := by decide +kernel
theorem dX12_late_85 : decode cX12_late 85 = .ok (.iload_n 2, 1) := by decide +kernel
theorem dX12_late_86 : decode cX12_late 86 = .ok (.iload 4, 2) := by decide +kernel
theorem dX12_late_88 : decode cX12_late 88 = .ok (.iadd, 1) := by decide +kernel
theorem dX12_late_89 : decode cX12_late 89 = .ok (.if_icmp .ne 29, 3) := by decide +kernel
theorem dX12_late_92 : decode cX12_late 92 = .ok (.iload 5, 2) := by decide +kernel
theorem dX12_late_94 : decode cX12_late 94 = .ok (.aload_n 0, 1) := by decide +kernel
theorem dX12_late_95 : decode cX12_late 95 = .ok (.getfield 7, 3) := by decide +kernel
theorem dX12_late_98 : decode cX12_late 98 = .ok (.bipush 94, 2) := by decide +kernel
theorem dX12_late_100 : decode cX12_late 100 = .ok (.iconst 2, 1) := by decide +kernel
theorem dX12_late_101 : decode cX12_late 101 = .ok (.iload 6, 2) := by decide +kernel
theorem dX12_late_103 : decode cX12_late 103 = .ok (.imul, 1) := by decide +kernel
theorem dX12_late_104 : decode cX12_late 104 = .ok (.iadd, 1) := by decide +kernel
theorem dX12_late_105 : decode cX12_late 105 = .ok (.iconst 1, 1) := by decide +kernel
theorem dX12_late_106 : decode cX12_late 106 = .ok (.iadd, 1) := by decide +kernel
theorem dX12_late_107 : decode cX12_late 107 = .ok (.iaload, 1) := by decide +kernel
theorem dX12_late_108 : decode cX12_late 108 = .ok (.if_icmp .ge 10, 3) := by decide +kernel
theorem dX12_late_111 : decode cX12_late 111 = .ok (.iconst 1, 1) := by decide +kernel
theorem dX12_late_112 : decode cX12_late 112 = .ok (.iload 6, 2) := by decide +kernel
theorem dX12_late_114 : decode cX12_late 114 = .ok (.ishl, 1) := by decide +kernel
theorem dX12_late_115 : decode cX12_late 115 = .ok (.goto 4, 3) := by decide +kernel
theorem dX12_late_118 : decode cX12_late 118 = .ok (.iconst 0, 1) := by decide +kernel
theorem dX12_late_119 : decode cX12_late 119 = .ok (.ior, 1) := by decide +kernel
theorem dX12_late_120 : decode cX12_late 120 = .ok (.istore_n 3, 1) := by decide +kernel
theorem dX12_late_121 : decode cX12_late 121 = .ok (.iinc 6 1, 3) := by decide +kernel
theorem dX12_late_124 : decode cX12_late 124 = .ok (.goto (-63), 3) := by decide +kernel
theorem dX12_late_127 : decode cX12_late 127 = .ok (.aload_n 0, 1) := by decide +kernel
theorem dX12_late_128 : decode cX12_late 128 = .ok (.iload_n 1, 1) := by decide +kernel
theorem dX12_late_129 : decode cX12_late 129 = .ok (.invokevirtual 338, 3) := by decide +kernel
theorem dX12_late_132 : decode cX12_late 132 = .ok (.iinc 4 1, 3) := by decide +kernel
theorem dX12_late_135 : decode cX12_late 135 = .ok (.goto (-90), 3) := by decide +kernel
theorem dX12_late_138 : decode cX12_late 138 = .ok (.aload_n 0, 1) := by decide +kernel
theorem dX12_late_139 : decode cX12_late 139 = .ok (.invokevirtual 184, 3) := by decide +kernel
theorem dX12_late_142 : decode cX12_late 142 = .ok (.iload_n 3, 1) := by decide +kernel
theorem dX12_late_143 : decode cX12_late 143 = .ok (.ireturn, 1) := by decide +kernel
theorem dX12_enough_0 : decode cX12_enough 0 = .ok (.aload_n 0, 1) := by decide +kernel
theorem dX12_enough_1 : decode cX12_enough 1 = .ok (.iload_n 1, 1) := by decide +kernel
theorem dX12_enough_2 : decode cX12_enough 2 = .ok (.iconst 0, 1) := by decide +kernel
theorem dX12_enough_3 : decode cX12_enough 3 = .ok (.bipush 99, 2) := by decide +kernel
theorem dX12_enough_5 : decode cX12_enough 5 = .ok (.invokestatic 58, 3) := by decide +kernel
theorem dX12_enough_8 : decode cX12_enough 8 = .ok (.ifCond .ne 7, 3) := by decide +kernel
theorem dX12_enough_11 : decode cX12_enough 11 = .ok (.iconst 1, 1) := by decide +kernel
theorem dX12_enough_12 : decode cX12_enough 12 = .ok (.goto 4, 3) := by decide +kernel
theorem dX12_enough_15 : decode cX12_enough 15 = .ok (.iconst 0, 1) := by decide +kernel
theorem dX12_enough_16 : decode cX12_enough 16 = .ok (.putfield 55, 3) := by decide +kernel
theorem dX12_enough_19 : decode cX12_enough 19 = .ok (.aload_n 0, 1) := by decide +kernel
theorem dX12_enough_20 : decode cX12_enough 20 = .ok (.getfield 55, 3) := by decide +kernel
theorem dX12_enough_23 : decode cX12_enough 23 = .ok (.ifCond .le 5, 3) := by decide +kernel
theorem dX12_enough_26 : decode cX12_enough 26 = .ok (.iconst 0, 1) := by decide +kernel
theorem dX12_enough_27 : decode cX12_enough 27 = .ok (.ireturn, 1) := by decide +kernel
theorem dX12_enough_28 : decode cX12_enough 28 = .ok (.iconst 0, 1) := by decide +kernel
theorem dX12_enough_29 : decode cX12_enough 29 = .ok (.istore_n 2, 1) := by decide +kernel
theorem dX12_enough_30 : decode cX12_enough 30 = .ok (.iload_n 2, 1) := by decide +kernel
theorem dX12_enough_31 : decode cX12_enough 31 = .ok (.bipush 99, 2) := by decide +kernel
theorem dX12_enough_33 : decode cX12_enough 33 = .ok (.if_icmp .gt 31, 3) := by decide +kernel
theorem dX12_enough_36 : decode cX12_enough 36 = .ok (.aload_n 0, 1) := by decide +kernel
theorem dX12_enough_37 : decode cX12_enough 37 = .ok (.getfield 7, 3) := by decide +kernel
theorem dX12_enough_40 : decode cX12_enough 40 = .ok (.iconst 5, 1) := by decide +kernel
theorem dX12_enough_41 : decode cX12_enough 41 = .ok (.iaload, 1) := by decide +kernel
theorem dX12_enough_42 : decode cX12_enough 42 = .ok (.iload_n 2, 1) := by decide +kernel
theorem dX12_enough_43 : decode cX12_enough 43 = .ok (.aload_n 0, 1) := by decide +kernel
theorem dX12_enough_44 : decode cX12_enough 44 = .ok (.getfield 7, 3) := by decide +kernel
theorem dX12_enough_47 : decode cX12_enough 47 = .ok (.bipush 6, 2) := by decide +kernel
theorem dX12_enough_49 : decode cX12_enough 49 = .ok (.iaload, 1) := by decide +kernel
theorem dX12_enough_50 : decode cX12_enough 50 = .ok (.imul, 1) := by decide +kernel
theorem dX12_enough_51 : decode cX12_enough 51 = .ok (.iadd, 1) := by decide +kernel
theorem dX12_enough_52 : decode cX12_enough 52 = .ok (.iload_n 1, 1) := by decide +kernel
theorem dX12_enough_53 : decode cX12_enough 53 = .ok (.if_icmp .lt 5, 3) := by decide +kernel
theorem dX12_enough_56 : decode cX12_enough 56 = .ok (.iload_n 2, 1) := by decide +kernel
theorem dX12_enough_57 : decode cX12_enough 57 = .ok (.ireturn, 1) := by decide +kernel
theorem dX12_enough_58 : decode cX12_enough 58 = .ok (.iinc 2 1, 3) := by decide +kernel
theorem dX12_enough_61 : decode cX12_enough 61 = .ok (.goto (-31), 3) := by decide +kernel
theorem dX12_enough_64 : decode cX12_enough 64 = .ok (.iconst (-1), 1) := by decide +kernel
theorem dX12_enough_65 : decode cX12_enough 65 = .ok (.ireturn, 1) := by decide +kernel
theorem dX12_told_0 : decode cX12_told 0 = .ok (.aload_n 0, 1) := by decide +kernel
theorem dX12_told_1 : decode cX12_told 1 = .ok (.getfield 66, 3) := by decide +kernel
theorem dX12_told_4 : decode cX12_told 4 = .ok (.istore_n 1, 1) := by decide +kernel
theorem dX12_told_5 : decode cX12_told 5 = .ok (.aload_n 0, 1) := by decide +kernel
theorem dX12_told_6 : decode cX12_told 6 = .ok (.iconst 0, 1) := by decide +kernel
theorem dX12_told_7 : decode cX12_told 7 = .ok (.putfield 66, 3) := by decide +kernel
theorem dX12_told_10 : decode cX12_told 10 = .ok (.iload_n 1, 1) := by decide +kernel
theorem dX12_told_11 : decode cX12_told 11 = .ok (.iconst 2, 1) := by decide +kernel
theorem dX12_told_12 : decode cX12_told 12 = .ok (.irem, 1) := by decide +kernel
theorem dX12_told_13 : decode cX12_told 13 = .ok (.ifCond .ne 13, 3) := by decide +kernel
theorem dX12_told_16 : decode cX12_told 16 = .ok (.iload_n 1, 1) := by decide +kernel
theorem dX12_told_17 : decode cX12_told 17 = .ok (.bipush 40, 2) := by decide +kernel
theorem dX12_told_19 : decode cX12_told 19 = .ok (.if_icmp .gt 7, 3) := by decide +kernel
theorem dX12_told_22 : decode cX12_told 22 = .ok (.iconst 1, 1) := by decide +kernel
theorem dX12_told_23 : decode cX12_told 23 = .ok (.goto 4, 3) := by decide +kernel
theorem dX12_told_26 : decode cX12_told 26 = .ok (.iconst 0, 1) := by decide +kernel
theorem dX12_told_27 : decode cX12_told 27 = .ok (.istore_n 2, 1) := by decide +kernel
theorem dX12_told_28 : decode cX12_told 28 = .ok (.iconst 0, 1) := by decide +kernel
theorem dX12_told_29 : decode cX12_told 29 = .ok (.istore_n 3, 1) := by decide +kernel
theorem dX12_told_30 : decode cX12_told 30 = .ok (.iload_n 3, 1) := by decide +kernel
theorem dX12_told_31 : decode cX12_told 31 = .ok (.iload_n 1, 1) := by decide +kernel
theorem dX12_told_32 : decode cX12_told 32 = .ok (.if_icmp .ge 44, 3) := by decide +kernel
theorem dX12_told_35 : decode cX12_told 35 = .ok (.iload_n 2, 1) := by decide +kernel
theorem dX12_told_36 : decode cX12_told 36 = .ok (.ifCond .eq 40, 3) := by decide +kernel
theorem dX12_told_39 : decode cX12_told 39 = .ok (.aload_n 0, 1) := by decide +kernel
theorem dX12_told_40 : decode cX12_told 40 = .ok (.getfield 25, 3) := by decide +kernel
theorem dX12_told_43 : decode cX12_told 43 = .ok (.iload_n 3, 1) := by decide +kernel
theorem dX12_told_44 : decode cX12_told 44 = .ok (.iaload, 1) := by decide +kernel
theorem dX12_told_45 : decode cX12_told 45 = .ok (.iload_n 3, 1) := by decide +kernel
theorem dX12_told_46 : decode cX12_told 46 = .ok (.iconst 2, 1) := by decide +kernel
theorem dX12_told_47 : decode cX12_told 47 = .ok (.irem, 1) := by decide +kernel
theorem dX12_told_48 : decode cX12_told 48 = .ok (.ifCond .ne 12, 3) := by decide +kernel
theorem dX12_told_51 : decode cX12_told 51 = .ok (.aload_n 0, 1) := by decide +kernel
theorem dX12_told_52 : decode cX12_told 52 = .ok (.getfield 7, 3) := by decide +kernel
theorem dX12_told_55 : decode cX12_told 55 = .ok (.iconst 3, 1) := by decide +kernel
theorem dX12_told_56 : decode cX12_told 56 = .ok (.iaload, 1) := by decide +kernel
theorem dX12_told_57 : decode cX12_told 57 = .ok (.goto 4, 3) := by decide +kernel
theorem dX12_told_60 : decode cX12_told 60 = .ok (.iconst 2, 1) := by decide +kernel
theorem dX12_told_61 : decode cX12_told 61 = .ok (.if_icmp .ge 7, 3) := by decide +kernel
theorem dX12_told_64 : decode cX12_told 64 = .ok (.iconst 1, 1) := by decide +kernel
theorem dX12_told_65 : decode cX12_told 65 = .ok (.goto 4, 3) := by decide +kernel
theorem dX12_told_68 : decode cX12_told 68 = .ok (.iconst 0, 1) := by decide +kernel
theorem dX12_told_69 : decode cX12_told 69 = .ok (.istore_n 2, 1) := by decide +kernel
theorem dX12_told_70 : decode cX12_told 70 = .ok (.iinc 3 1, 3) := by decide +kernel
theorem dX12_told_73 : decode cX12_told 73 = .ok (.goto (-43), 3) := by decide +kernel
theorem dX12_told_76 : decode cX12_told 76 = .ok (.iload_n 2, 1) := by decide +kernel
theorem dX12_told_77 : decode cX12_told 77 = .ok (.ifCond .ne 5, 3) := by decide +kernel
theorem dX12_told_80 : decode cX12_told 80 = .ok (.iconst (-1), 1) := by decide +kernel
theorem dX12_told_81 : decode cX12_told 81 = .ok (.ireturn, 1) := by decide +kernel
theorem dX12_told_82 : decode cX12_told 82 = .ok (.iconst 0, 1) := by decide +kernel
theorem dX12_told_83 : decode cX12_told 83 = .ok (.istore_n 3, 1) := by decide +kernel
theorem dX12_told_84 : decode cX12_told 84 = .ok (.iconst 0, 1) := by decide +kernel
theorem dX12_told_85 : decode cX12_told 85 = .ok (.istore 4, 2) := by decide +kernel
theorem dX12_told_87 : decode cX12_told 87 = .ok (.iload 4, 2) := by decide +kernel
theorem dX12_told_89 : decode cX12_told 89 = .ok (.bipush 32, 2) := by decide +kernel
theorem dX12_told_91 : decode cX12_told 91 = .ok (.if_icmp .ge 118, 3) := by decide +kernel
theorem dX12_told_94 : decode cX12_told 94 = .ok (.aload_n 0, 1) := by decide +kernel
theorem dX12_told_95 : decode cX12_told 95 = .ok (.getfield 44, 3) := by decide +kernel
theorem dX12_told_98 : decode cX12_told 98 = .ok (.iload 4, 2) := by decide +kernel
theorem dX12_told_100 : decode cX12_told 100 = .ok (.iconst 1, 1) := by decide +kernel
theorem dX12_told_101 : decode cX12_told 101 = .ok (.bastore, 1) := by decide +kernel
theorem dX12_told_102 : decode cX12_told 102 = .ok (.iconst 0, 1) := by decide +kernel
theorem dX12_told_103 : decode cX12_told 103 = .ok (.istore 5, 2) := by decide +kernel
theorem dX12_told_105 : decode cX12_told 105 = .ok (.iload 5, 2) := by decide +kernel
theorem dX12_told_107 : decode cX12_told 107 = .ok (.iload_n 1, 1) := by decide +kernel
theorem dX12_told_108 : decode cX12_told 108 = .ok (.if_icmp .ge 77, 3) := by decide +kernel
theorem dX12_told_111 : decode cX12_told 111 = .ok (.aload_n 0, 1) := by decide +kernel
theorem dX12_told_112 : decode cX12_told 112 = .ok (.getfield 44, 3) := by decide +kernel
theorem dX12_told_115 : decode cX12_told 115 = .ok (.iload 4, 2) := by decide +kernel
theorem dX12_told_117 : decode cX12_told 117 = .ok (.baload, 1) := by decide +kernel
theorem dX12_told_118 : decode cX12_told 118 = .ok (.ifCond .eq 67, 3) := by decide +kernel
theorem dX12_told_121 : decode cX12_told 121 = .ok (.aload_n 0, 1) := by decide +kernel
theorem dX12_told_122 : decode cX12_told 122 = .ok (.getfield 44, 3) := by decide +kernel
theorem dX12_told_125 : decode cX12_told 125 = .ok (.iload 4, 2) := by decide +kernel
theorem dX12_told_127 : decode cX12_told 127 = .ok (.iload 4, 2) := by decide +kernel
theorem dX12_told_129 : decode cX12_told 129 = .ok (.aload_n 0, 1) := by decide +kernel
theorem dX12_told_130 : decode cX12_told 130 = .ok (.aload_n 0, 1) := by decide +kernel
theorem dX12_told_131 : decode cX12_told 131 = .ok (.getfield 25, 3) := by decide +kernel
theorem dX12_told_134 : decode cX12_told 134 = .ok (.iload 5, 2) := by decide +kernel
theorem dX12_told_136 : decode cX12_told 136 = .ok (.iaload, 1) := by decide +kernel
theorem dX12_told_137 : decode cX12_told 137 = .ok (.iconst 3, 1) := by decide +kernel
theorem dX12_told_138 : decode cX12_told 138 = .ok (.invokevirtual 283, 3) := by decide +kernel
theorem dX12_told_141 : decode cX12_told 141 = .ok (.iconst (-1), 1) := by decide +kernel
theorem dX12_told_142 : decode cX12_told 142 = .ok (.ixor, 1) := by decide +kernel
theorem dX12_told_143 : decode cX12_told 143 = .ok (.iand, 1) := by decide +kernel
theorem dX12_told_144 : decode cX12_told 144 = .ok (.ifCond .eq 7, 3) := by decide +kernel
theorem dX12_told_147 : decode cX12_told 147 = .ok (.iconst 1, 1) := by decide +kernel
theorem dX12_told_148 : decode cX12_told 148 = .ok (.goto 4, 3) := by decide +kernel
theorem dX12_told_151 : decode cX12_told 151 = .ok (.iconst 0, 1) := by decide +kernel
theorem dX12_told_152 : decode cX12_told 152 = .ok (.aload_n 0, 1) := by decide +kernel
theorem dX12_told_153 : decode cX12_told 153 = .ok (.getfield 25, 3) := by decide +kernel
theorem dX12_told_156 : decode cX12_told 156 = .ok (.iload 5, 2) := by decide +kernel
theorem dX12_told_158 : decode cX12_told 158 = .ok (.iconst 1, 1) := by decide +kernel
theorem dX12_told_159 : decode cX12_told 159 = .ok (.iadd, 1) := by decide +kernel
theorem dX12_told_160 : decode cX12_told 160 = .ok (.iaload, 1) := by decide +kernel
theorem dX12_told_161 : decode cX12_told 161 = .ok (.iconst 1, 1) := by decide +kernel
