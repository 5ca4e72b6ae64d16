set_option maxRecDepth 20000
theorem dX12_told_162 : decode cX12_told 162 = .ok (.if_icmp .ne 7, 3) := by decide +kernel
theorem dX12_told_165 : decode cX12_told 165 = .ok (.iconst 1, 1) := by decide +kernel
theorem dX12_told_166 : decode cX12_told 166 = .ok (.goto 4, 3) := by decide +kernel
theorem dX12_told_169 : decode cX12_told 169 = .ok (.iconst 0, 1) := by decide +kernel
theorem dX12_told_170 : decode cX12_told 170 = .ok (.if_icmp .ne 7, 3) := by decide +kernel
theorem dX12_told_173 : decode cX12_told 173 = .ok (.iconst 1, 1) := by decide +kernel
theorem dX12_told_174 : decode cX12_told 174 = .ok (.goto 4, 3) := by decide +kernel
theorem dX12_told_177 : decode cX12_told 177 = .ok (.iconst 0, 1) := by decide +kernel
theorem dX12_told_178 : decode cX12_told 178 = .ok (.bastore, 1) := by decide +kernel
theorem dX12_told_179 : decode cX12_told 179 = .ok (.iinc 5 2, 3) := by decide +kernel
theorem dX12_told_182 : decode cX12_told 182 = .ok (.goto (-77), 3) := by decide +kernel
theorem dX12_told_185 : decode cX12_told 185 = .ok (.iload_n 3, 1) := by decide +kernel
theorem dX12_told_186 : decode cX12_told 186 = .ok (.aload_n 0, 1) := by decide +kernel
theorem dX12_told_187 : decode cX12_told 187 = .ok (.getfield 44, 3) := by decide +kernel
theorem dX12_told_190 : decode cX12_told 190 = .ok (.iload 4, 2) := by decide +kernel
theorem dX12_told_192 : decode cX12_told 192 = .ok (.baload, 1) := by decide +kernel
theorem dX12_told_193 : decode cX12_told 193 = .ok (.ifCond .eq 7, 3) := by decide +kernel
theorem dX12_told_196 : decode cX12_told 196 = .ok (.iconst 1, 1) := by decide +kernel
theorem dX12_told_197 : decode cX12_told 197 = .ok (.goto 4, 3) := by decide +kernel
theorem dX12_told_200 : decode cX12_told 200 = .ok (.iconst 0, 1) := by decide +kernel
theorem dX12_told_201 : decode cX12_told 201 = .ok (.iadd, 1) := by decide +kernel
theorem dX12_told_202 : decode cX12_told 202 = .ok (.istore_n 3, 1) := by decide +kernel
theorem dX12_told_203 : decode cX12_told 203 = .ok (.iinc 4 1, 3) := by decide +kernel
theorem dX12_told_206 : decode cX12_told 206 = .ok (.goto (-119), 3) := by decide +kernel
theorem dX12_told_209 : decode cX12_told 209 = .ok (.iload_n 3, 1) := by decide +kernel
theorem dX12_told_210 : decode cX12_told 210 = .ok (.ireturn, 1) := by decide +kernel
theorem dX12_stained_0 : decode cX12_stained 0 = .ok (.aload_n 0, 1) := by decide +kernel
theorem dX12_stained_1 : decode cX12_stained 1 = .ok (.invokevirtual 341, 3) := by decide +kernel
theorem dX12_stained_4 : decode cX12_stained 4 = .ok (.istore_n 2, 1) := by decide +kernel
theorem dX12_stained_5 : decode cX12_stained 5 = .ok (.aload_n 0, 1) := by decide +kernel
theorem dX12_stained_6 : decode cX12_stained 6 = .ok (.iload_n 2, 1) := by decide +kernel
theorem dX12_stained_7 : decode cX12_stained 7 = .ok (.iconst (-1), 1) := by decide +kernel
theorem dX12_stained_8 : decode cX12_stained 8 = .ok (.if_icmp .ne 7, 3) := by decide +kernel
theorem dX12_stained_11 : decode cX12_stained 11 = .ok (.iconst 1, 1) := by decide +kernel
theorem dX12_stained_12 : decode cX12_stained 12 = .ok (.goto 4, 3) := by decide +kernel
theorem dX12_stained_15 : decode cX12_stained 15 = .ok (.iconst 0, 1) := by decide +kernel
theorem dX12_stained_16 : decode cX12_stained 16 = .ok (.putfield 55, 3) := by decide +kernel
theorem dX12_stained_19 : decode cX12_stained 19 = .ok (.aload_n 0, 1) := by decide +kernel
theorem dX12_stained_20 : decode cX12_stained 20 = .ok (.getfield 55, 3) := by decide +kernel
theorem dX12_stained_23 : decode cX12_stained 23 = .ok (.ifCond .gt 7, 3) := by decide +kernel
theorem dX12_stained_26 : decode cX12_stained 26 = .ok (.iload_n 1, 1) := by decide +kernel
theorem dX12_stained_27 : decode cX12_stained 27 = .ok (.ifCond .ne 16, 3) := by decide +kernel
theorem dX12_stained_30 : decode cX12_stained 30 = .ok (.aload_n 0, 1) := by decide +kernel
theorem dX12_stained_31 : decode cX12_stained 31 = .ok (.getfield 55, 3) := by decide +kernel
theorem dX12_stained_34 : decode cX12_stained 34 = .ok (.ifCond .le 7, 3) := by decide +kernel
theorem dX12_stained_37 : decode cX12_stained 37 = .ok (.iconst 0, 1) := by decide +kernel
theorem dX12_stained_38 : decode cX12_stained 38 = .ok (.goto 4, 3) := by decide +kernel
theorem dX12_stained_41 : decode cX12_stained 41 = .ok (.iload_n 2, 1) := by decide +kernel
theorem dX12_stained_42 : decode cX12_stained 42 = .ok (.ireturn, 1) := by decide +kernel
theorem dX12_stained_43 : decode cX12_stained 43 = .ok (.iload_n 2, 1) := by decide +kernel
theorem dX12_stained_44 : decode cX12_stained 44 = .ok (.ifCond .ne 7, 3) := by decide +kernel
theorem dX12_stained_47 : decode cX12_stained 47 = .ok (.iconst 0, 1) := by decide +kernel
theorem dX12_stained_48 : decode cX12_stained 48 = .ok (.goto 5, 3) := by decide +kernel
theorem dX12_stained_51 : decode cX12_stained 51 = .ok (.bipush 31, 2) := by decide +kernel
theorem dX12_stained_53 : decode cX12_stained 53 = .ok (.istore_n 3, 1) := by decide +kernel
theorem dX12_stained_54 : decode cX12_stained 54 = .ok (.iconst 0, 1) := by decide +kernel
theorem dX12_stained_55 : decode cX12_stained 55 = .ok (.istore 4, 2) := by decide +kernel
theorem dX12_stained_57 : decode cX12_stained 57 = .ok (.iload 4, 2) := by decide +kernel
theorem dX12_stained_59 : decode cX12_stained 59 = .ok (.bipush 32, 2) := by decide +kernel
theorem dX12_stained_61 : decode cX12_stained 61 = .ok (.if_icmp .ge 24, 3) := by decide +kernel
theorem dX12_stained_64 : decode cX12_stained 64 = .ok (.aload_n 0, 1) := by decide +kernel
theorem dX12_stained_65 : decode cX12_stained 65 = .ok (.getfield 44, 3) := by decide +kernel
theorem dX12_stained_68 : decode cX12_stained 68 = .ok (.iload 4, 2) := by decide +kernel
theorem dX12_stained_70 : decode cX12_stained 70 = .ok (.baload, 1) := by decide +kernel
theorem dX12_stained_71 : decode cX12_stained 71 = .ok (.ifCond .eq 8, 3) := by decide +kernel
theorem dX12_stained_74 : decode cX12_stained 74 = .ok (.iload_n 3, 1) := by decide +kernel
theorem dX12_stained_75 : decode cX12_stained 75 = .ok (.iload 4, 2) := by decide +kernel
theorem dX12_stained_77 : decode cX12_stained 77 = .ok (.iand, 1) := by decide +kernel
theorem dX12_stained_78 : decode cX12_stained 78 = .ok (.istore_n 3, 1) := by decide +kernel
theorem dX12_stained_79 : decode cX12_stained 79 = .ok (.iinc 4 1, 3) := by decide +kernel
theorem dX12_stained_82 : decode cX12_stained 82 = .ok (.goto (-25), 3) := by decide +kernel
theorem dX12_stained_85 : decode cX12_stained 85 = .ok (.iload_n 3, 1) := by decide +kernel
theorem dX12_stained_86 : decode cX12_stained 86 = .ok (.ireturn, 1) := by decide +kernel
theorem dX12_tries_0 : decode cX12_tries 0 = .ok (.aload_n 0, 1) := by decide +kernel
theorem dX12_tries_1 : decode cX12_tries 1 = .ok (.invokevirtual 341, 3) := by decide +kernel
theorem dX12_tries_4 : decode cX12_tries 4 = .ok (.istore_n 1, 1) := by decide +kernel
theorem dX12_tries_5 : decode cX12_tries 5 = .ok (.aload_n 0, 1) := by decide +kernel
theorem dX12_tries_6 : decode cX12_tries 6 = .ok (.iload_n 1, 1) := by decide +kernel
theorem dX12_tries_7 : decode cX12_tries 7 = .ok (.iconst (-1), 1) := by decide +kernel
theorem dX12_tries_8 : decode cX12_tries 8 = .ok (.if_icmp .ne 7, 3) := by decide +kernel
theorem dX12_tries_11 : decode cX12_tries 11 = .ok (.iconst 1, 1) := by decide +kernel
theorem dX12_tries_12 : decode cX12_tries 12 = .ok (.goto 4, 3) := by decide +kernel
theorem dX12_tries_15 : decode cX12_tries 15 = .ok (.iconst 0, 1) := by decide +kernel
theorem dX12_tries_16 : decode cX12_tries 16 = .ok (.putfield 55, 3) := by decide +kernel
theorem dX12_tries_19 : decode cX12_tries 19 = .ok (.aload_n 0, 1) := by decide +kernel
theorem dX12_tries_20 : decode cX12_tries 20 = .ok (.getfield 55, 3) := by decide +kernel
theorem dX12_tries_23 : decode cX12_tries 23 = .ok (.ifCond .le 5, 3) := by decide +kernel
theorem dX12_tries_26 : decode cX12_tries 26 = .ok (.iconst 0, 1) := by decide +kernel
theorem dX12_tries_27 : decode cX12_tries 27 = .ok (.ireturn, 1) := by decide +kernel
theorem dX12_tries_28 : decode cX12_tries 28 = .ok (.iconst (-1), 1) := by decide +kernel
theorem dX12_tries_29 : decode cX12_tries 29 = .ok (.istore_n 2, 1) := by decide +kernel
theorem dX12_tries_30 : decode cX12_tries 30 = .ok (.ldc_w 319, 3) := by decide +kernel
theorem dX12_tries_33 : decode cX12_tries 33 = .ok (.istore_n 3, 1) := by decide +kernel
theorem dX12_tries_34 : decode cX12_tries 34 = .ok (.iconst 0, 1) := by decide +kernel
theorem dX12_tries_35 : decode cX12_tries 35 = .ok (.istore 4, 2) := by decide +kernel
theorem dX12_tries_37 : decode cX12_tries 37 = .ok (.iload 4, 2) := by decide +kernel
theorem dX12_tries_39 : decode cX12_tries 39 = .ok (.aload_n 0, 1) := by decide +kernel
theorem dX12_tries_40 : decode cX12_tries 40 = .ok (.getfield 7, 3) := by decide +kernel
theorem dX12_tries_43 : decode cX12_tries 43 = .ok (.iconst 3, 1) := by decide +kernel
theorem dX12_tries_44 : decode cX12_tries 44 = .ok (.iaload, 1) := by decide +kernel
theorem dX12_tries_45 : decode cX12_tries 45 = .ok (.if_icmp .ge 97, 3) := by decide +kernel
theorem dX12_tries_48 : decode cX12_tries 48 = .ok (.iload_n 1, 1) := by decide +kernel
theorem dX12_tries_49 : decode cX12_tries 49 = .ok (.iconst 1, 1) := by decide +kernel
theorem dX12_tries_50 : decode cX12_tries 50 = .ok (.if_icmp .le 92, 3) := by decide +kernel
theorem dX12_tries_53 : decode cX12_tries 53 = .ok (.iconst 0, 1) := by decide +kernel
theorem dX12_tries_54 : decode cX12_tries 54 = .ok (.istore 5, 2) := by decide +kernel
theorem dX12_tries_56 : decode cX12_tries 56 = .ok (.iconst 0, 1) := by decide +kernel
theorem dX12_tries_57 : decode cX12_tries 57 = .ok (.istore 6, 2) := by decide +kernel
theorem dX12_tries_59 : decode cX12_tries 59 = .ok (.iload 6, 2) := by decide +kernel
theorem dX12_tries_61 : decode cX12_tries 61 = .ok (.bipush 32, 2) := by decide +kernel
theorem dX12_tries_63 : decode cX12_tries 63 = .ok (.if_icmp .ge 44, 3) := by decide +kernel
theorem dX12_tries_66 : decode cX12_tries 66 = .ok (.iload 5, 2) := by decide +kernel
theorem dX12_tries_68 : decode cX12_tries 68 = .ok (.aload_n 0, 1) := by decide +kernel
theorem dX12_tries_69 : decode cX12_tries 69 = .ok (.getfield 44, 3) := by decide +kernel
theorem dX12_tries_72 : decode cX12_tries 72 = .ok (.iload 6, 2) := by decide +kernel
theorem dX12_tries_74 : decode cX12_tries 74 = .ok (.baload, 1) := by decide +kernel
theorem dX12_tries_75 : decode cX12_tries 75 = .ok (.ifCond .eq 22, 3) := by decide +kernel
theorem dX12_tries_78 : decode cX12_tries 78 = .ok (.iload 6, 2) := by decide +kernel
theorem dX12_tries_80 : decode cX12_tries 80 = .ok (.aload_n 0, 1) := by decide +kernel
theorem dX12_tries_81 : decode cX12_tries 81 = .ok (.iload 4, 2) := by decide +kernel
theorem dX12_tries_83 : decode cX12_tries 83 = .ok (.iconst 3, 1) := by decide +kernel
theorem dX12_tries_84 : decode cX12_tries 84 = .ok (.invokevirtual 283, 3) := by decide +kernel
theorem dX12_tries_87 : decode cX12_tries 87 = .ok (.iconst (-1), 1) := by decide +kernel
theorem dX12_tries_88 : decode cX12_tries 88 = .ok (.ixor, 1) := by decide +kernel
theorem dX12_tries_89 : decode cX12_tries 89 = .ok (.iand, 1) := by decide +kernel
theorem dX12_tries_90 : decode cX12_tries 90 = .ok (.ifCond .eq 7, 3) := by decide +kernel
theorem dX12_tries_93 : decode cX12_tries 93 = .ok (.iconst 1, 1) := by decide +kernel
theorem dX12_tries_94 : decode cX12_tries 94 = .ok (.goto 4, 3) := by decide +kernel
theorem dX12_tries_97 : decode cX12_tries 97 = .ok (.iconst 0, 1) := by decide +kernel
theorem dX12_tries_98 : decode cX12_tries 98 = .ok (.iadd, 1) := by decide +kernel
theorem dX12_tries_99 : decode cX12_tries 99 = .ok (.istore 5, 2) := by decide +kernel
theorem dX12_tries_101 : decode cX12_tries 101 = .ok (.iinc 6 1, 3) := by decide +kernel
theorem dX12_tries_104 : decode cX12_tries 104 = .ok (.goto (-45), 3) := by decide +kernel
theorem dX12_tries_107 : decode cX12_tries 107 = .ok (.iload 5, 2) := by decide +kernel
theorem dX12_tries_109 : decode cX12_tries 109 = .ok (.iload_n 1, 1) := by decide +kernel
theorem dX12_tries_110 : decode cX12_tries 110 = .ok (.iload 5, 2) := by decide +kernel
theorem dX12_tries_112 : decode cX12_tries 112 = .ok (.isub, 1) := by decide +kernel
theorem dX12_tries_113 : decode cX12_tries 113 = .ok (.invokestatic 256, 3) := by decide +kernel
theorem dX12_tries_116 : decode cX12_tries 116 = .ok (.iload_n 3, 1) := by decide +kernel
theorem dX12_tries_117 : decode cX12_tries 117 = .ok (.if_icmp .lt 6, 3) := by decide +kernel
theorem dX12_tries_120 : decode cX12_tries 120 = .ok (.goto 16, 3) := by decide +kernel
theorem dX12_tries_123 : decode cX12_tries 123 = .ok (.iload 5, 2) := by decide +kernel
theorem dX12_tries_125 : decode cX12_tries 125 = .ok (.iload_n 1, 1) := by decide +kernel
theorem dX12_tries_126 : decode cX12_tries 126 = .ok (.iload 5, 2) := by decide +kernel
theorem dX12_tries_128 : decode cX12_tries 128 = .ok (.isub, 1) := by decide +kernel
theorem dX12_tries_129 : decode cX12_tries 129 = .ok (.invokestatic 256, 3) := by decide +kernel
theorem dX12_tries_132 : decode cX12_tries 132 = .ok (.istore_n 3, 1) := by decide +kernel
theorem dX12_tries_133 : decode cX12_tries 133 = .ok (.iload 4, 2) := by decide +kernel
theorem dX12_tries_135 : decode cX12_tries 135 = .ok (.istore_n 2, 1) := by decide +kernel
theorem dX12_tries_136 : decode cX12_tries 136 = .ok (.iinc 4 1, 3) := by decide +kernel
theorem dX12_tries_139 : decode cX12_tries 139 = .ok (.goto (-102), 3) := by decide +kernel
theorem dX12_tries_142 : decode cX12_tries 142 = .ok (.iload_n 2, 1) := by decide +kernel
theorem dX12_tries_143 : decode cX12_tries 143 = .ok (.ireturn, 1) := by decide +kernel
theorem dX12_watch_0 : decode cX12_watch 0 = .ok (.aload_n 0, 1) := by decide +kernel
theorem dX12_watch_1 : decode cX12_watch 1 = .ok (.iconst 0, 1) := by decide +kernel
theorem dX12_watch_2 : decode cX12_watch 2 = .ok (.putfield 55, 3) := by decide +kernel
theorem dX12_watch_5 : decode cX12_watch 5 = .ok (.iconst 0, 1) := by decide +kernel
theorem dX12_watch_6 : decode cX12_watch 6 = .ok (.istore_n 1, 1) := by decide +kernel
theorem dX12_watch_7 : decode cX12_watch 7 = .ok (.iconst 0, 1) := by decide +kernel
theorem dX12_watch_8 : decode cX12_watch 8 = .ok (.istore_n 2, 1) := by decide +kernel
theorem dX12_watch_9 : decode cX12_watch 9 = .ok (.iload_n 2, 1) := by decide +kernel
theorem dX12_watch_10 : decode cX12_watch 10 = .ok (.bipush 8, 2) := by decide +kernel
theorem dX12_watch_12 : decode cX12_watch 12 = .ok (.if_icmp .ge 34, 3) := by decide +kernel
theorem dX12_watch_15 : decode cX12_watch 15 = .ok (.iload_n 1, 1) := by decide +kernel
theorem dX12_watch_16 : decode cX12_watch 16 = .ok (.aload_n 0, 1) := by decide +kernel
theorem dX12_watch_17 : decode cX12_watch 17 = .ok (.iload_n 2, 1) := by decide +kernel
theorem dX12_watch_18 : decode cX12_watch 18 = .ok (.iconst 4, 1) := by decide +kernel
theorem dX12_watch_19 : decode cX12_watch 19 = .ok (.invokevirtual 62, 3) := by decide +kernel
theorem dX12_watch_22 : decode cX12_watch 22 = .ok (.iconst 1, 1) := by decide +kernel
theorem dX12_watch_23 : decode cX12_watch 23 = .ok (.if_icmp .ne 14, 3) := by decide +kernel
theorem dX12_watch_26 : decode cX12_watch 26 = .ok (.iconst 1, 1) := by decide +kernel
theorem dX12_watch_27 : decode cX12_watch 27 = .ok (.aload_n 0, 1) := by decide +kernel
theorem dX12_watch_28 : decode cX12_watch 28 = .ok (.iload_n 2, 1) := by decide +kernel
theorem dX12_watch_29 : decode cX12_watch 29 = .ok (.iconst 5, 1) := by decide +kernel
theorem dX12_watch_30 : decode cX12_watch 30 = .ok (.invokevirtual 62, 3) := by decide +kernel
theorem dX12_watch_33 : decode cX12_watch 33 = .ok (.ishl, 1) := by decide +kernel
theorem dX12_watch_34 : decode cX12_watch 34 = .ok (.goto 4, 3) := by decide +kernel
theorem dX12_watch_37 : decode cX12_watch 37 = .ok (.iconst 0, 1) := by decide +kernel
theorem dX12_watch_38 : decode cX12_watch 38 = .ok (.ior, 1) := by decide +kernel
theorem dX12_watch_39 : decode cX12_watch 39 = .ok (.istore_n 1, 1) := by decide +kernel
theorem dX12_watch_40 : decode cX12_watch 40 = .ok (.iinc 2 1, 3) := by decide +kernel
theorem dX12_watch_43 : decode cX12_watch 43 = .ok (.goto (-34), 3) := by decide +kernel
theorem dX12_watch_46 : decode cX12_watch 46 = .ok (.iconst (-1), 1) := by decide +kernel
theorem dX12_watch_47 : decode cX12_watch 47 = .ok (.istore_n 2, 1) := by decide +kernel
theorem dX12_watch_48 : decode cX12_watch 48 = .ok (.iconst 0, 1) := by decide +kernel
theorem dX12_watch_49 : decode cX12_watch 49 = .ok (.istore_n 3, 1) := by decide +kernel
theorem dX12_watch_50 : decode cX12_watch 50 = .ok (.iload_n 3, 1) := by decide +kernel
theorem dX12_watch_51 : decode cX12_watch 51 = .ok (.sipush 256, 3) := by decide +kernel
theorem dX12_watch_54 : decode cX12_watch 54 = .ok (.if_icmp .ge 47, 3) := by decide +kernel
theorem dX12_watch_57 : decode cX12_watch 57 = .ok (.iload_n 3, 1) := by decide +kernel
theorem dX12_watch_58 : decode cX12_watch 58 = .ok (.iload_n 3, 1) := by decide +kernel
theorem dX12_watch_59 : decode cX12_watch 59 = .ok (.iconst 1, 1) := by decide +kernel
theorem dX12_watch_60 : decode cX12_watch 60 = .ok (.ishl, 1) := by decide +kernel
theorem dX12_watch_61 : decode cX12_watch 61 = .ok (.ior, 1) := by decide +kernel
theorem dX12_watch_62 : decode cX12_watch 62 = .ok (.iload_n 3, 1) := by decide +kernel
theorem dX12_watch_63 : decode cX12_watch 63 = .ok (.iconst 1, 1) := by decide +kernel
theorem dX12_watch_64 : decode cX12_watch 64 = .ok (.ishr, 1) := by decide +kernel
theorem dX12_watch_65 : decode cX12_watch 65 = .ok (.ior, 1) := by decide +kernel
theorem dX12_watch_66 : decode cX12_watch 66 = .ok (.istore 4, 2) := by decide +kernel
theorem dX12_watch_68 : decode cX12_watch 68 = .ok (.iload_n 1, 1) := by decide +kernel
theorem dX12_watch_69 : decode cX12_watch 69 = .ok (.iload 4, 2) := by decide +kernel
theorem dX12_watch_71 : decode cX12_watch 71 = .ok (.iconst (-1), 1) := by decide +kernel
theorem dX12_watch_72 : decode cX12_watch 72 = .ok (.ixor, 1) := by decide +kernel
theorem dX12_watch_73 : decode cX12_watch 73 = .ok (.iand, 1) := by decide +kernel
theorem dX12_watch_74 : decode cX12_watch 74 = .ok (.ifCond .ne 21, 3) := by decide +kernel
theorem dX12_watch_77 : decode cX12_watch 77 = .ok (.iload_n 2, 1) := by decide +kernel
theorem dX12_watch_78 : decode cX12_watch 78 = .ok (.iconst (-1), 1) := by decide +kernel
theorem dX12_watch_79 : decode cX12_watch 79 = .ok (.if_icmp .eq 14, 3) := by decide +kernel
theorem dX12_watch_82 : decode cX12_watch 82 = .ok (.iload_n 3, 1) := by decide +kernel
theorem dX12_watch_83 : decode cX12_watch 83 = .ok (.invokestatic 247, 3) := by decide +kernel
theorem dX12_watch_86 : decode cX12_watch 86 = .ok (.iload_n 2, 1) := by decide +kernel
theorem dX12_watch_87 : decode cX12_watch 87 = .ok (.invokestatic 247, 3) := by decide +kernel
theorem dX12_watch_90 : decode cX12_watch 90 = .ok (.if_icmp .ge 5, 3) := by decide +kernel
theorem dX12_watch_93 : decode cX12_watch 93 = .ok (.iload_n 3, 1) := by decide +kernel
theorem dX12_watch_94 : decode cX12_watch 94 = .ok (.istore_n 2, 1) := by decide +kernel
theorem dX12_watch_95 : decode cX12_watch 95 = .ok (.iinc 3 1, 3) := by decide +kernel
theorem dX12_watch_98 : decode cX12_watch 98 = .ok (.goto (-48), 3) := by decide +kernel
theorem dX12_watch_101 : decode cX12_watch 101 = .ok (.iload_n 2, 1) := by decide +kernel
theorem dX12_watch_102 : decode cX12_watch 102 = .ok (.ireturn, 1) := by decide +kernel
theorem dX12_row_0 : decode cX12_row 0 = .ok (.aload_n 0, 1) := by decide +kernel
theorem dX12_row_1 : decode cX12_row 1 = .ok (.iconst 0, 1) := by decide +kernel
theorem dX12_row_2 : decode cX12_row 2 = .ok (.putfield 55, 3) := by decide +kernel
theorem dX12_row_5 : decode cX12_row 5 = .ok (.aload_n 0, 1) := by decide +kernel
theorem dX12_row_6 : decode cX12_row 6 = .ok (.invokevirtual 313, 3) := by decide +kernel
theorem dX12_row_9 : decode cX12_row 9 = .ok (.istore_n 1, 1) := by decide +kernel
theorem dX12_row_10 : decode cX12_row 10 = .ok (.iconst 0, 1) := by decide +kernel
theorem dX12_row_11 : decode cX12_row 11 = .ok (.istore_n 2, 1) := by decide +kernel
theorem dX12_row_12 : decode cX12_row 12 = .ok (.iconst 0, 1) := by decide +kernel
theorem dX12_row_13 : decode cX12_row 13 = .ok (.istore_n 3, 1) := by decide +kernel
theorem dX12_row_14 : decode cX12_row 14 = .ok (.iload_n 3, 1) := by decide +kernel
theorem dX12_row_15 : decode cX12_row 15 = .ok (.bipush 8, 2) := by decide +kernel
theorem dX12_row_17 : decode cX12_row 17 = .ok (.if_icmp .ge 46, 3) := by decide +kernel
theorem dX12_row_20 : decode cX12_row 20 = .ok (.iconst 0, 1) := by decide +kernel
theorem dX12_row_21 : decode cX12_row 21 = .ok (.istore 4, 2) := by decide +kernel
theorem dX12_row_23 : decode cX12_row 23 = .ok (.iload 4, 2) := by decide +kernel
theorem dX12_row_25 : decode cX12_row 25 = .ok (.bipush 8, 2) := by decide +kernel
theorem dX12_row_27 : decode cX12_row 27 = .ok (.if_icmp .ge 23, 3) := by decide +kernel
theorem dX12_row_30 : decode cX12_row 30 = .ok (.iload_n 1, 1) := by decide +kernel
theorem dX12_row_31 : decode cX12_row 31 = .ok (.iload_n 3, 1) := by decide +kernel
theorem dX12_row_32 : decode cX12_row 32 = .ok (.iload 4, 2) := by decide +kernel
theorem dX12_row_34 : decode cX12_row 34 = .ok (.iadd, 1) := by decide +kernel
theorem dX12_row_35 : decode cX12_row 35 = .ok (.bipush 8, 2) := by decide +kernel
theorem dX12_row_37 : decode cX12_row 37 = .ok (.irem, 1) := by decide +kernel
theorem dX12_row_38 : decode cX12_row 38 = .ok (.invokestatic 108, 3) := by decide +kernel
theorem dX12_row_41 : decode cX12_row 41 = .ok (.ifCond .eq 9, 3) := by decide +kernel
theorem dX12_row_44 : decode cX12_row 44 = .ok (.iinc 4 1, 3) := by decide +kernel
theorem dX12_row_47 : decode cX12_row 47 = .ok (.goto (-24), 3) := by decide +kernel
theorem dX12_row_50 : decode cX12_row 50 = .ok (.iload_n 2, 1) := by decide +kernel
theorem dX12_row_51 : decode cX12_row 51 = .ok (.iload 4, 2) := by decide +kernel
theorem dX12_row_53 : decode cX12_row 53 = .ok (.invokestatic 256, 3) := by decide +kernel
theorem dX12_row_56 : decode cX12_row 56 = .ok (.istore_n 2, 1) := by decide +kernel
theorem dX12_row_57 : decode cX12_row 57 = .ok (.iinc 3 1, 3) := by decide +kernel
theorem dX12_row_60 : decode cX12_row 60 = .ok (.goto (-46), 3) := by decide +kernel
theorem dX12_row_63 : decode cX12_row 63 = .ok (.iload_n 2, 1) := by decide +kernel
theorem dX12_row_64 : decode cX12_row 64 = .ok (.ireturn, 1) := by decide +kernel
theorem dX12_looks_0 : decode cX12_looks 0 = .ok (.iconst 0, 1) := by decide +kernel
theorem dX12_looks_1 : decode cX12_looks 1 = .ok (.istore_n 1, 1) := by decide +kernel
theorem dX12_looks_2 : decode cX12_looks 2 = .ok (.iload_n 1, 1) := by decide +kernel
theorem dX12_looks_3 : decode cX12_looks 3 = .ok (.bipush 8, 2) := by decide +kernel
theorem dX12_looks_5 : decode cX12_looks 5 = .ok (.if_icmp .ge 20, 3) := by decide +kernel
theorem dX12_looks_8 : decode cX12_looks 8 = .ok (.aload_n 0, 1) := by decide +kernel
theorem dX12_looks_9 : decode cX12_looks 9 = .ok (.getfield 48, 3) := by decide +kernel
theorem dX12_looks_12 : decode cX12_looks 12 = .ok (.iload_n 1, 1) := by decide +kernel
theorem dX12_looks_13 : decode cX12_looks 13 = .ok (.aload_n 0, 1) := by decide +kernel
theorem dX12_looks_14 : decode cX12_looks 14 = .ok (.iload_n 1, 1) := by decide +kernel
theorem dX12_looks_15 : decode cX12_looks 15 = .ok (.invokevirtual 262, 3) := by decide +kernel
theorem dX12_looks_18 : decode cX12_looks 18 = .ok (.iastore, 1) := by decide +kernel
theorem dX12_looks_19 : decode cX12_looks 19 = .ok (.iinc 1 1, 3) := by decide +kernel
theorem dX12_looks_22 : decode cX12_looks 22 = .ok (.goto (-20), 3) := by decide +kernel
theorem dX12_looks_25 : decode cX12_looks 25 = .ok (.return_, 1) := by decide +kernel
theorem dX12_darkest_0 : decode cX12_darkest 0 = .ok (.aload_n 0, 1) := by decide +kernel
theorem dX12_darkest_1 : decode cX12_darkest 1 = .ok (.iconst 0, 1) := by decide +kernel
theorem dX12_darkest_2 : decode cX12_darkest 2 = .ok (.putfield 55, 3) := by decide +kernel
theorem dX12_darkest_5 : decode cX12_darkest 5 = .ok (.aload_n 0, 1) := by decide +kernel
theorem dX12_darkest_6 : decode cX12_darkest 6 = .ok (.invokevirtual 344, 3) := by decide +kernel
theorem dX12_darkest_9 : decode cX12_darkest 9 = .ok (.iconst 0, 1) := by decide +kernel
theorem dX12_darkest_10 : decode cX12_darkest 10 = .ok (.istore_n 1, 1) := by decide +kernel
theorem dX12_darkest_11 : decode cX12_darkest 11 = .ok (.iconst 1, 1) := by decide +kernel
theorem dX12_darkest_12 : decode cX12_darkest 12 = .ok (.istore_n 2, 1) := by decide +kernel
theorem dX12_darkest_13 : decode cX12_darkest 13 = .ok (.iload_n 2, 1) := by decide +kernel
theorem dX12_darkest_14 : decode cX12_darkest 14 = .ok (.bipush 8, 2) := by decide +kernel
theorem dX12_darkest_16 : decode cX12_darkest 16 = .ok (.if_icmp .ge 26, 3) := by decide +kernel
theorem dX12_darkest_19 : decode cX12_darkest 19 = .ok (.aload_n 0, 1) := by decide +kernel
theorem dX12_darkest_20 : decode cX12_darkest 20 = .ok (.getfield 48, 3) := by decide +kernel
theorem dX12_darkest_23 : decode cX12_darkest 23 = .ok (.iload_n 2, 1) := by decide +kernel
theorem dX12_darkest_24 : decode cX12_darkest 24 = .ok (.iaload, 1) := by decide +kernel
theorem dX12_darkest_25 : decode cX12_darkest 25 = .ok (.aload_n 0, 1) := by decide +kernel
theorem dX12_darkest_26 : decode cX12_darkest 26 = .ok (.getfield 48, 3) := by decide +kernel
theorem dX12_darkest_29 : decode cX12_darkest 29 = .ok (.iload_n 1, 1) := by decide +kernel
theorem dX12_darkest_30 : decode cX12_darkest 30 = .ok (.iaload, 1) := by decide +kernel
theorem dX12_darkest_31 : decode cX12_darkest 31 = .ok (.if_icmp .ge 5, 3) := by decide +kernel
theorem dX12_darkest_34 : decode cX12_darkest 34 = .ok (.iload_n 2, 1) := by decide +kernel
theorem dX12_darkest_35 : decode cX12_darkest 35 = .ok (.istore_n 1, 1) := by decide +kernel
theorem dX12_darkest_36 : decode cX12_darkest 36 = .ok (.iinc 2 1, 3) := by decide +kernel
theorem dX12_darkest_39 : decode cX12_darkest 39 = .ok (.goto (-26), 3) := by decide +kernel
theorem dX12_darkest_42 : decode cX12_darkest 42 = .ok (.iload_n 1, 1) := by decide +kernel
theorem dX12_darkest_43 : decode cX12_darkest 43 = .ok (.ireturn, 1) := by decide +kernel
theorem dX12_halves_0 : decode cX12_halves 0 = .ok (.aload_n 0, 1) := by decide +kernel
theorem dX12_halves_1 : decode cX12_halves 1 = .ok (.iconst 0, 1) := by decide +kernel
theorem dX12_halves_2 : decode cX12_halves 2 = .ok (.putfield 55, 3) := by decide +kernel
theorem dX12_halves_5 : decode cX12_halves 5 = .ok (.aload_n 0, 1) := by decide +kernel
theorem dX12_halves_6 : decode cX12_halves 6 = .ok (.invokevirtual 344, 3) := by decide +kernel
theorem dX12_halves_9 : decode cX12_halves 9 = .ok (.iconst (-1), 1) := by decide +kernel
theorem dX12_halves_10 : decode cX12_halves 10 = .ok (.istore_n 1, 1) := by decide +kernel
theorem dX12_halves_11 : decode cX12_halves 11 = .ok (.ldc_w 319, 3) := by decide +kernel
theorem dX12_halves_14 : decode cX12_halves 14 = .ok (.istore_n 2, 1) := by decide +kernel
theorem dX12_halves_15 : decode cX12_halves 15 = .ok (.iconst 0, 1) := by decide +kernel
theorem dX12_halves_16 : decode cX12_halves 16 = .ok (.istore_n 3, 1) := by decide +kernel
theorem dX12_halves_17 : decode cX12_halves 17 = .ok (.iload_n 3, 1) := by decide +kernel
theorem dX12_halves_18 : decode cX12_halves 18 = .ok (.bipush 8, 2) := by decide +kernel
theorem dX12_halves_20 : decode cX12_halves 20 = .ok (.if_icmp .ge 96, 3) := by decide +kernel
theorem dX12_halves_23 : decode cX12_halves 23 = .ok (.iconst 0, 1) := by decide +kernel
theorem dX12_halves_24 : decode cX12_halves 24 = .ok (.istore 4, 2) := by decide +kernel
theorem dX12_halves_26 : decode cX12_halves 26 = .ok (.iconst 0, 1) := by decide +kernel
theorem dX12_halves_27 : decode cX12_halves 27 = .ok (.istore 5, 2) := by decide +kernel
theorem dX12_halves_29 : decode cX12_halves 29 = .ok (.iload 5, 2) := by decide +kernel
theorem dX12_halves_31 : decode cX12_halves 31 = .ok (.bipush 8, 2) := by decide +kernel
theorem dX12_halves_33 : decode cX12_halves 33 = .ok (.if_icmp .ge 48, 3) := by decide +kernel
theorem dX12_halves_36 : decode cX12_halves 36 = .ok (.iload 4, 2) := by decide +kernel
theorem dX12_halves_38 : decode cX12_halves 38 = .ok (.iload 5, 2) := by decide +kernel
theorem dX12_halves_40 : decode cX12_halves 40 = .ok (.iconst 4, 1) := by decide +kernel
theorem dX12_halves_41 : decode cX12_halves 41 = .ok (.if_icmp .ge 18, 3) := by decide +kernel
theorem dX12_halves_44 : decode cX12_halves 44 = .ok (.aload_n 0, 1) := by decide +kernel
theorem dX12_halves_45 : decode cX12_halves 45 = .ok (.getfield 48, 3) := by decide +kernel
theorem dX12_halves_48 : decode cX12_halves 48 = .ok (.iload_n 3, 1) := by decide +kernel
theorem dX12_halves_49 : decode cX12_halves 49 = .ok (.iload 5, 2) := by decide +kernel
theorem dX12_halves_51 : decode cX12_halves 51 = .ok (.iadd, 1) := by decide +kernel
theorem dX12_halves_52 : decode cX12_halves 52 = .ok (.bipush 8, 2) := by decide +kernel
theorem dX12_halves_54 : decode cX12_halves 54 = .ok (.irem, 1) := by decide +kernel
theorem dX12_halves_55 : decode cX12_halves 55 = .ok (.iaload, 1) := by decide +kernel
theorem dX12_halves_56 : decode cX12_halves 56 = .ok (.goto 16, 3) := by decide +kernel
theorem dX12_halves_59 : decode cX12_halves 59 = .ok (.aload_n 0, 1) := by decide +kernel
theorem dX12_halves_60 : decode cX12_halves 60 = .ok (.getfield 48, 3) := by decide +kernel
theorem dX12_halves_63 : decode cX12_halves 63 = .ok (.iload_n 3, 1) := by decide +kernel
theorem dX12_halves_64 : decode cX12_halves 64 = .ok (.iload 5, 2) := by decide +kernel
theorem dX12_halves_66 : decode cX12_halves 66 = .ok (.iadd, 1) := by decide +kernel
theorem dX12_halves_67 : decode cX12_halves 67 = .ok (.bipush 8, 2) := by decide +kernel
theorem dX12_halves_69 : decode cX12_halves 69 = .ok (.irem, 1) := by decide +kernel
theorem dX12_halves_70 : decode cX12_halves 70 = .ok (.iaload, 1) := by decide +kernel
theorem dX12_halves_71 : decode cX12_halves 71 = .ok (.ineg, 1) := by decide +kernel
theorem dX12_halves_72 : decode cX12_halves 72 = .ok (.iadd, 1) := by decide +kernel
theorem dX12_halves_73 : decode cX12_halves 73 = .ok (.istore 4, 2) := by decide +kernel
theorem dX12_halves_75 : decode cX12_halves 75 = .ok (.iinc 5 1, 3) := by decide +kernel
theorem dX12_halves_78 : decode cX12_halves 78 = .ok (.goto (-49), 3) := by decide +kernel
theorem dX12_halves_81 : decode cX12_halves 81 = .ok (.iload 4, 2) := by decide +kernel
theorem dX12_halves_83 : decode cX12_halves 83 = .ok (.ifCond .ge 9, 3) := by decide +kernel
theorem dX12_halves_86 : decode cX12_halves 86 = .ok (.iload 4, 2) := by decide +kernel
theorem dX12_halves_88 : decode cX12_halves 88 = .ok (.ineg, 1) := by decide +kernel
theorem dX12_halves_89 : decode cX12_halves 89 = .ok (.goto 5, 3) := by decide +kernel
theorem dX12_halves_92 : decode cX12_halves 92 = .ok (.iload 4, 2) := by decide +kernel
theorem dX12_halves_94 : decode cX12_halves 94 = .ok (.istore 4, 2) := by decide +kernel
theorem dX12_halves_96 : decode cX12_halves 96 = .ok (.iload 4, 2) := by decide +kernel
theorem dX12_halves_98 : decode cX12_halves 98 = .ok (.iload_n 2, 1) := by decide +kernel
theorem dX12_halves_99 : decode cX12_halves 99 = .ok (.if_icmp .lt 6, 3) := by decide +kernel
theorem dX12_halves_102 : decode cX12_halves 102 = .ok (.goto 8, 3) := by decide +kernel
theorem dX12_halves_105 : decode cX12_halves 105 = .ok (.iload 4, 2) := by decide +kernel
theorem dX12_halves_107 : decode cX12_halves 107 = .ok (.istore_n 2, 1) := by decide +kernel
theorem dX12_halves_108 : decode cX12_halves 108 = .ok (.iload_n 3, 1) := by decide +kernel
theorem dX12_halves_109 : decode cX12_halves 109 = .ok (.istore_n 1, 1) := by decide +kernel
theorem dX12_halves_110 : decode cX12_halves 110 = .ok (.iinc 3 1, 3) := by decide +kernel
theorem dX12_halves_113 : decode cX12_halves 113 = .ok (.goto (-96), 3) := by decide +kernel
theorem dX12_halves_116 : decode cX12_halves 116 = .ok (.iload_n 1, 1) := by decide +kernel
theorem dX12_halves_117 : decode cX12_halves 117 = .ok (.ireturn, 1) := by decide +kernel
theorem dX12_like_0 : decode cX12_like 0 = .ok (.aload_n 0, 1) := by decide +kernel
theorem dX12_like_1 : decode cX12_like 1 = .ok (.iconst 0, 1) := by decide +kernel
theorem dX12_like_2 : decode cX12_like 2 = .ok (.putfield 55, 3) := by decide +kernel
theorem dX12_like_5 : decode cX12_like 5 = .ok (.aload_n 0, 1) := by decide +kernel
theorem dX12_like_6 : decode cX12_like 6 = .ok (.getfield 347, 3) := by decide +kernel
theorem dX12_like_9 : decode cX12_like 9 = .ok (.ifCond .ne 5, 3) := by decide +kernel
theorem dX12_like_12 : decode cX12_like 12 = .ok (.iconst (-1), 1) := by decide +kernel
theorem dX12_like_13 : decode cX12_like 13 = .ok (.ireturn, 1) := by decide +kernel
theorem dX12_like_14 : decode cX12_like 14 = .ok (.aload_n 0, 1) := by decide +kernel
theorem dX12_like_15 : decode cX12_like 15 = .ok (.invokevirtual 344, 3) := by decide +kernel
theorem dX12_like_18 : decode cX12_like 18 = .ok (.iconst 0, 1) := by decide +kernel
theorem dX12_like_19 : decode cX12_like 19 = .ok (.istore_n 1, 1) := by decide +kernel
theorem dX12_like_20 : decode cX12_like 20 = .ok (.iload_n 1, 1) := by decide +kernel
theorem dX12_like_21 : decode cX12_like 21 = .ok (.sipush 750, 3) := by decide +kernel
theorem dX12_like_24 : decode cX12_like 24 = .ok (.if_icmp .ge 33, 3) := by decide +kernel
theorem dX12_like_27 : decode cX12_like 27 = .ok (.aload_n 0, 1) := by decide +kernel
theorem dX12_like_28 : decode cX12_like 28 = .ok (.getfield 16, 3) := by decide +kernel
theorem dX12_like_31 : decode cX12_like 31 = .ok (.iload_n 1, 1) := by decide +kernel
theorem dX12_like_32 : decode cX12_like 32 = .ok (.aload_n 0, 1) := by decide +kernel
theorem dX12_like_33 : decode cX12_like 33 = .ok (.getfield 7, 3) := by decide +kernel
theorem dX12_like_36 : decode cX12_like 36 = .ok (.iload_n 1, 1) := by decide +kernel
theorem dX12_like_37 : decode cX12_like 37 = .ok (.iaload, 1) := by decide +kernel
theorem dX12_like_38 : decode cX12_like 38 = .ok (.iastore, 1) := by decide +kernel
theorem dX12_like_39 : decode cX12_like 39 = .ok (.aload_n 0, 1) := by decide +kernel
theorem dX12_like_40 : decode cX12_like 40 = .ok (.getfield 7, 3) := by decide +kernel
theorem dX12_like_43 : decode cX12_like 43 = .ok (.iload_n 1, 1) := by decide +kernel
theorem dX12_like_44 : decode cX12_like 44 = .ok (.aload_n 0, 1) := by decide +kernel
theorem dX12_like_45 : decode cX12_like 45 = .ok (.getfield 13, 3) := by decide +kernel
theorem dX12_like_48 : decode cX12_like 48 = .ok (.iload_n 1, 1) := by decide +kernel
theorem dX12_like_49 : decode cX12_like 49 = .ok (.iaload, 1) := by decide +kernel
theorem dX12_like_50 : decode cX12_like 50 = .ok (.iastore, 1) := by decide +kernel
theorem dX12_like_51 : decode cX12_like 51 = .ok (.iinc 1 1, 3) := by decide +kernel
theorem dX12_like_54 : decode cX12_like 54 = .ok (.goto (-34), 3) := by decide +kernel
theorem dX12_like_57 : decode cX12_like 57 = .ok (.iconst 0, 1) := by decide +kernel
theorem dX12_like_58 : decode cX12_like 58 = .ok (.istore_n 1, 1) := by decide +kernel
theorem dX12_like_59 : decode cX12_like 59 = .ok (.iconst 0, 1) := by decide +kernel
theorem dX12_like_60 : decode cX12_like 60 = .ok (.istore_n 2, 1) := by decide +kernel
theorem dX12_like_61 : decode cX12_like 61 = .ok (.iload_n 2, 1) := by decide +kernel
theorem dX12_like_62 : decode cX12_like 62 = .ok (.bipush 8, 2) := by decide +kernel
theorem dX12_like_64 : decode cX12_like 64 = .ok (.if_icmp .ge 31, 3) := by decide +kernel
theorem dX12_like_67 : decode cX12_like 67 = .ok (.iload_n 1, 1) := by decide +kernel
theorem dX12_like_68 : decode cX12_like 68 = .ok (.aload_n 0, 1) := by decide +kernel
theorem dX12_like_69 : decode cX12_like 69 = .ok (.iload_n 2, 1) := by decide +kernel
theorem dX12_like_70 : decode cX12_like 70 = .ok (.invokevirtual 262, 3) := by decide +kernel
theorem dX12_like_73 : decode cX12_like 73 = .ok (.aload_n 0, 1) := by decide +kernel
theorem dX12_like_74 : decode cX12_like 74 = .ok (.getfield 48, 3) := by decide +kernel
theorem dX12_like_77 : decode cX12_like 77 = .ok (.iload_n 2, 1) := by decide +kernel
theorem dX12_like_78 : decode cX12_like 78 = .ok (.iaload, 1) := by decide +kernel
theorem dX12_like_79 : decode cX12_like 79 = .ok (.if_icmp .ne 7, 3) := by decide +kernel
theorem dX12_like_82 : decode cX12_like 82 = .ok (.iconst 1, 1) := by decide +kernel
theorem dX12_like_83 : decode cX12_like 83 = .ok (.goto 4, 3) := by decide +kernel
theorem dX12_like_86 : decode cX12_like 86 = .ok (.iconst 0, 1) := by decide +kernel
theorem dX12_like_87 : decode cX12_like 87 = .ok (.iadd, 1) := by decide +kernel
theorem dX12_like_88 : decode cX12_like 88 = .ok (.istore_n 1, 1) := by decide +kernel
theorem dX12_like_89 : decode cX12_like 89 = .ok (.iinc 2 1, 3) := by decide +kernel
theorem dX12_like_92 : decode cX12_like 92 = .ok (.goto (-31), 3) := by decide +kernel
theorem dX12_like_95 : decode cX12_like 95 = .ok (.iconst 0, 1) := by decide +kernel
theorem dX12_like_96 : decode cX12_like 96 = .ok (.istore_n 2, 1) := by decide +kernel
theorem dX12_like_97 : decode cX12_like 97 = .ok (.iload_n 2, 1) := by decide +kernel
theorem dX12_like_98 : decode cX12_like 98 = .ok (.sipush 750, 3) := by decide +kernel
theorem dX12_like_101 : decode cX12_like 101 = .ok (.if_icmp .ge 21, 3) := by decide +kernel
theorem dX12_like_104 : decode cX12_like 104 = .ok (.aload_n 0, 1) := by decide +kernel
theorem dX12_like_105 : decode cX12_like 105 = .ok (.getfield 7, 3) := by decide +kernel
theorem dX12_like_108 : decode cX12_like 108 = .ok (.iload_n 2, 1) := by decide +kernel
theorem dX12_like_109 : decode cX12_like 109 = .ok (.aload_n 0, 1) := by decide +kernel
theorem dX12_like_110 : decode cX12_like 110 = .ok (.getfield 16, 3) := by decide +kernel
theorem dX12_like_113 : decode cX12_like 113 = .ok (.iload_n 2, 1) := by decide +kernel
theorem dX12_like_114 : decode cX12_like 114 = .ok (.iaload, 1) := by decide +kernel
theorem dX12_like_115 : decode cX12_like 115 = .ok (.iastore, 1) := by decide +kernel
theorem dX12_like_116 : decode cX12_like 116 = .ok (.iinc 2 1, 3) := by decide +kernel
theorem dX12_like_119 : decode cX12_like 119 = .ok (.goto (-22), 3) := by decide +kernel
theorem dX12_like_122 : decode cX12_like 122 = .ok (.iload_n 1, 1) := by decide +kernel
theorem dX12_like_123 : decode cX12_like 123 = .ok (.ireturn, 1) := by decide +kernel
theorem dX12_stains_0 : decode cX12_stains 0 = .ok (.iconst 0, 1) := by decide +kernel
theorem dX12_stains_1 : decode cX12_stains 1 = .ok (.istore_n 1, 1) := by decide +kernel
theorem dX12_stains_2 : decode cX12_stains 2 = .ok (.iconst 0, 1) := by decide +kernel
theorem dX12_stains_3 : decode cX12_stains 3 = .ok (.istore_n 2, 1) := by decide +kernel
theorem dX12_stains_4 : decode cX12_stains 4 = .ok (.iload_n 2, 1) := by decide +kernel
theorem dX12_stains_5 : decode cX12_stains 5 = .ok (.bipush 8, 2) := by decide +kernel
theorem dX12_stains_7 : decode cX12_stains 7 = .ok (.if_icmp .ge 21, 3) := by decide +kernel
theorem dX12_stains_10 : decode cX12_stains 10 = .ok (.iload_n 1, 1) := by decide +kernel
theorem dX12_stains_11 : decode cX12_stains 11 = .ok (.aload_n 0, 1) := by decide +kernel
theorem dX12_stains_12 : decode cX12_stains 12 = .ok (.iload_n 2, 1) := by decide +kernel
theorem dX12_stains_13 : decode cX12_stains 13 = .ok (.iconst 3, 1) := by decide +kernel
theorem dX12_stains_14 : decode cX12_stains 14 = .ok (.invokevirtual 62, 3) := by decide +kernel
theorem dX12_stains_17 : decode cX12_stains 17 = .ok (.invokestatic 247, 3) := by decide +kernel
theorem dX12_stains_20 : decode cX12_stains 20 = .ok (.iadd, 1) := by decide +kernel
theorem dX12_stains_21 : decode cX12_stains 21 = .ok (.istore_n 1, 1) := by decide +kernel
theorem dX12_stains_22 : decode cX12_stains 22 = .ok (.iinc 2 1, 3) := by decide +kernel
theorem dX12_stains_25 : decode cX12_stains 25 = .ok (.goto (-21), 3) := by decide +kernel
theorem dX12_stains_28 : decode cX12_stains 28 = .ok (.iload_n 1, 1) := by decide +kernel
theorem dX12_stains_29 : decode cX12_stains 29 = .ok (.ireturn, 1) := by decide +kernel
theorem dX12_trial_0 : decode cX12_trial 0 = .ok (.aload_n 0, 1) := by decide +kernel
theorem dX12_trial_1 : decode cX12_trial 1 = .ok (.iload_n 1, 1) := by decide +kernel
theorem dX12_trial_2 : decode cX12_trial 2 = .ok (.iconst 0, 1) := by decide +kernel
theorem dX12_trial_3 : decode cX12_trial 3 = .ok (.bipush 40, 2) := by decide +kernel
theorem dX12_trial_5 : decode cX12_trial 5 = .ok (.invokestatic 58, 3) := by decide +kernel
theorem dX12_trial_8 : decode cX12_trial 8 = .ok (.ifCond .ne 7, 3) := by decide +kernel
theorem dX12_trial_11 : decode cX12_trial 11 = .ok (.iconst 1, 1) := by decide +kernel
theorem dX12_trial_12 : decode cX12_trial 12 = .ok (.goto 4, 3) := by decide +kernel
theorem dX12_trial_15 : decode cX12_trial 15 = .ok (.iconst 0, 1) := by decide +kernel
theorem dX12_trial_16 : decode cX12_trial 16 = .ok (.putfield 55, 3) := by decide +kernel
theorem dX12_trial_19 : decode cX12_trial 19 = .ok (.aload_n 0, 1) := by decide +kernel
theorem dX12_trial_20 : decode cX12_trial 20 = .ok (.getfield 55, 3) := by decide +kernel
theorem dX12_trial_23 : decode cX12_trial 23 = .ok (.ifCond .le 5, 3) := by decide +kernel
theorem dX12_trial_26 : decode cX12_trial 26 = .ok (.iconst 0, 1) := by decide +kernel
theorem dX12_trial_27 : decode cX12_trial 27 = .ok (.ireturn, 1) := by decide +kernel
theorem dX12_trial_28 : decode cX12_trial 28 = .ok (.aload_n 0, 1) := by decide +kernel
theorem dX12_trial_29 : decode cX12_trial 29 = .ok (.invokevirtual 174, 3) := by decide +kernel
theorem dX12_trial_32 : decode cX12_trial 32 = .ok (.aload_n 0, 1) := by decide +kernel
theorem dX12_trial_33 : decode cX12_trial 33 = .ok (.iload_n 1, 1) := by decide +kernel
theorem dX12_trial_34 : decode cX12_trial 34 = .ok (.invokevirtual 310, 3) := by decide +kernel
theorem dX12_trial_37 : decode cX12_trial 37 = .ok (.istore_n 3, 1) := by decide +kernel
theorem dX12_trial_38 : decode cX12_trial 38 = .ok (.iload_n 2, 1) := by decide +kernel
theorem dX12_trial_39 : decode cX12_trial 39 = .ok (.ifCond .eq 10, 3) := by decide +kernel
theorem dX12_trial_42 : decode cX12_trial 42 = .ok (.aload_n 0, 1) := by decide +kernel
theorem dX12_trial_43 : decode cX12_trial 43 = .ok (.invokevirtual 350, 3) := by decide +kernel
theorem dX12_trial_46 : decode cX12_trial 46 = .ok (.goto 7, 3) := by decide +kernel
theorem dX12_trial_49 : decode cX12_trial 49 = .ok (.aload_n 0, 1) := by decide +kernel
theorem dX12_trial_50 : decode cX12_trial 50 = .ok (.invokevirtual 286, 3) := by decide +kernel
theorem dX12_trial_53 : decode cX12_trial 53 = .ok (.istore 4, 2) := by decide +kernel
theorem dX12_trial_55 : decode cX12_trial 55 = .ok (.aload_n 0, 1) := by decide +kernel
theorem dX12_trial_56 : decode cX12_trial 56 = .ok (.invokevirtual 184, 3) := by decide +kernel
theorem dX12_trial_59 : decode cX12_trial 59 = .ok (.iload 4, 2) := by decide +kernel
theorem dX12_trial_61 : decode cX12_trial 61 = .ok (.ireturn, 1) := by decide +kernel
theorem dX12_span_0 : decode cX12_span 0 = .ok (.aload_n 0, 1) := by decide +kernel
theorem dX12_span_1 : decode cX12_span 1 = .ok (.iload_n 1, 1) := by decide +kernel
theorem dX12_span_2 : decode cX12_span 2 = .ok (.iconst 0, 1) := by decide +kernel
theorem dX12_span_3 : decode cX12_span 3 = .ok (.bipush 40, 2) := by decide +kernel
theorem dX12_span_5 : decode cX12_span 5 = .ok (.invokestatic 58, 3) := by decide +kernel
theorem dX12_span_8 : decode cX12_span 8 = .ok (.ifCond .ne 7, 3) := by decide +kernel
theorem dX12_span_11 : decode cX12_span 11 = .ok (.iconst 1, 1) := by decide +kernel
theorem dX12_span_12 : decode cX12_span 12 = .ok (.goto 4, 3) := by decide +kernel
theorem dX12_span_15 : decode cX12_span 15 = .ok (.iconst 0, 1) := by decide +kernel
theorem dX12_span_16 : decode cX12_span 16 = .ok (.putfield 55, 3) := by decide +kernel
theorem dX12_span_19 : decode cX12_span 19 = .ok (.aload_n 0, 1) := by decide +kernel
theorem dX12_span_20 : decode cX12_span 20 = .ok (.getfield 55, 3) := by decide +kernel
theorem dX12_span_23 : decode cX12_span 23 = .ok (.ifCond .le 5, 3) := by decide +kernel
theorem dX12_span_26 : decode cX12_span 26 = .ok (.iconst 0, 1) := by decide +kernel
theorem dX12_span_27 : decode cX12_span 27 = .ok (.ireturn, 1) := by decide +kernel
theorem dX12_span_28 : decode cX12_span 28 = .ok (.aload_n 0, 1) := by decide +kernel
theorem dX12_span_29 : decode cX12_span 29 = .ok (.invokevirtual 174, 3) := by decide +kernel
theorem dX12_span_32 : decode cX12_span 32 = .ok (.iconst (-1), 1) := by decide +kernel
theorem dX12_span_33 : decode cX12_span 33 = .ok (.istore_n 3, 1) := by decide +kernel
theorem dX12_span_34 : decode cX12_span 34 = .ok (.iconst 1, 1) := by decide +kernel
theorem dX12_span_35 : decode cX12_span 35 = .ok (.istore 4, 2) := by decide +kernel
theorem dX12_span_37 : decode cX12_span 37 = .ok (.iload 4, 2) := by decide +kernel
theorem dX12_span_39 : decode cX12_span 39 = .ok (.bipush 6, 2) := by decide +kernel
theorem dX12_span_41 : decode cX12_span 41 = .ok (.if_icmp .gt 65, 3) := by decide +kernel
theorem dX12_span_44 : decode cX12_span 44 = .ok (.aload_n 0, 1) := by decide +kernel
theorem dX12_span_45 : decode cX12_span 45 = .ok (.getfield 7, 3) := by decide +kernel
theorem dX12_span_48 : decode cX12_span 48 = .ok (.bipush 12, 2) := by decide +kernel
theorem dX12_span_50 : decode cX12_span 50 = .ok (.iload 4, 2) := by decide +kernel
theorem dX12_span_52 : decode cX12_span 52 = .ok (.iastore, 1) := by decide +kernel
theorem dX12_span_53 : decode cX12_span 53 = .ok (.aload_n 0, 1) := by decide +kernel
theorem dX12_span_54 : decode cX12_span 54 = .ok (.iload_n 1, 1) := by decide +kernel
theorem dX12_span_55 : decode cX12_span 55 = .ok (.invokevirtual 310, 3) := by decide +kernel
theorem dX12_span_58 : decode cX12_span 58 = .ok (.istore 5, 2) := by decide +kernel
theorem dX12_span_60 : decode cX12_span 60 = .ok (.aload_n 0, 1) := by decide +kernel
theorem dX12_span_61 : decode cX12_span 61 = .ok (.invokevirtual 286, 3) := by decide +kernel
theorem dX12_span_64 : decode cX12_span 64 = .ok (.istore 6, 2) := by decide +kernel
theorem dX12_span_66 : decode cX12_span 66 = .ok (.aload_n 0, 1) := by decide +kernel
theorem dX12_span_67 : decode cX12_span 67 = .ok (.invokevirtual 184, 3) := by decide +kernel
theorem dX12_span_70 : decode cX12_span 70 = .ok (.iload_n 3, 1) := by decide +kernel
theorem dX12_span_71 : decode cX12_span 71 = .ok (.iconst (-1), 1) := by decide +kernel
theorem dX12_span_72 : decode cX12_span 72 = .ok (.if_icmp .ne 8, 3) := by decide +kernel
theorem dX12_span_75 : decode cX12_span 75 = .ok (.iload 6, 2) := by decide +kernel
theorem dX12_span_77 : decode cX12_span 77 = .ok (.goto 22, 3) := by decide +kernel
theorem dX12_span_80 : decode cX12_span 80 = .ok (.iload_n 2, 1) := by decide +kernel
theorem dX12_span_81 : decode cX12_span 81 = .ok (.ifCond .eq 12, 3) := by decide +kernel
theorem dX12_span_84 : decode cX12_span 84 = .ok (.iload_n 3, 1) := by decide +kernel
theorem dX12_span_85 : decode cX12_span 85 = .ok (.iload 6, 2) := by decide +kernel
theorem dX12_span_87 : decode cX12_span 87 = .ok (.invokestatic 256, 3) := by decide +kernel
theorem dX12_span_90 : decode cX12_span 90 = .ok (.goto 9, 3) := by decide +kernel
theorem dX12_span_93 : decode cX12_span 93 = .ok (.iload_n 3, 1) := by decide +kernel
theorem dX12_span_94 : decode cX12_span 94 = .ok (.iload 6, 2) := by decide +kernel
theorem dX12_span_96 : decode cX12_span 96 = .ok (.invokestatic 253, 3) := by decide +kernel
theorem dX12_span_99 : decode cX12_span 99 = .ok (.istore_n 3, 1) := by decide +kernel
theorem dX12_span_100 : decode cX12_span 100 = .ok (.iinc 4 1, 3) := by decide +kernel
theorem dX12_span_103 : decode cX12_span 103 = .ok (.goto (-66), 3) := by decide +kernel
theorem dX12_span_106 : decode cX12_span 106 = .ok (.iload_n 3, 1) := by decide +kernel
theorem dX12_span_107 : decode cX12_span 107 = .ok (.ireturn, 1) := by decide +kernel
theorem dX12_logged_0 : decode cX12_logged 0 = .ok (.aload_n 0, 1) := by decide +kernel
theorem dX12_logged_1 : decode cX12_logged 1 = .ok (.getfield 7, 3) := by decide +kernel
theorem dX12_logged_4 : decode cX12_logged 4 = .ok (.bipush 110, 2) := by decide +kernel
theorem dX12_logged_6 : decode cX12_logged 6 = .ok (.iconst 4, 1) := by decide +kernel
theorem dX12_logged_7 : decode cX12_logged 7 = .ok (.iload_n 1, 1) := by decide +kernel
theorem dX12_logged_8 : decode cX12_logged 8 = .ok (.imul, 1) := by decide +kernel
theorem dX12_logged_9 : decode cX12_logged 9 = .ok (.iadd, 1) := by decide +kernel
theorem dX12_logged_10 : decode cX12_logged 10 = .ok (.iload_n 2, 1) := by decide +kernel
theorem dX12_logged_11 : decode cX12_logged 11 = .ok (.iadd, 1) := by decide +kernel
theorem dX12_logged_12 : decode cX12_logged 12 = .ok (.iaload, 1) := by decide +kernel
theorem dX12_logged_13 : decode cX12_logged 13 = .ok (.ireturn, 1) := by decide +kernel
theorem dX12_led_0 : decode cX12_led 0 = .ok (.aload_n 0, 1) := by decide +kernel
theorem dX12_led_1 : decode cX12_led 1 = .ok (.iload_n 1, 1) := by decide +kernel
theorem dX12_led_2 : decode cX12_led 2 = .ok (.invokestatic 289, 3) := by decide +kernel
theorem dX12_led_5 : decode cX12_led 5 = .ok (.ifCond .ne 7, 3) := by decide +kernel
theorem dX12_led_8 : decode cX12_led 8 = .ok (.iconst 1, 1) := by decide +kernel
theorem dX12_led_9 : decode cX12_led 9 = .ok (.goto 4, 3) := by decide +kernel
theorem dX12_led_12 : decode cX12_led 12 = .ok (.iconst 0, 1) := by decide +kernel
theorem dX12_led_13 : decode cX12_led 13 = .ok (.putfield 55, 3) := by decide +kernel
theorem dX12_led_16 : decode cX12_led 16 = .ok (.aload_n 0, 1) := by decide +kernel
theorem dX12_led_17 : decode cX12_led 17 = .ok (.getfield 55, 3) := by decide +kernel
theorem dX12_led_20 : decode cX12_led 20 = .ok (.ifCond .le 5, 3) := by decide +kernel
theorem dX12_led_23 : decode cX12_led 23 = .ok (.iconst 0, 1) := by decide +kernel
theorem dX12_led_24 : decode cX12_led 24 = .ok (.ireturn, 1) := by decide +kernel
theorem dX12_led_25 : decode cX12_led 25 = .ok (.iconst 0, 1) := by decide +kernel
theorem dX12_led_26 : decode cX12_led 26 = .ok (.istore_n 3, 1) := by decide +kernel
theorem dX12_led_27 : decode cX12_led 27 = .ok (.iconst (-1), 1) := by decide +kernel
theorem dX12_led_28 : decode cX12_led 28 = .ok (.istore 4, 2) := by decide +kernel
theorem dX12_led_30 : decode cX12_led 30 = .ok (.aload_n 0, 1) := by decide +kernel
theorem dX12_led_31 : decode cX12_led 31 = .ok (.getfield 7, 3) := by decide +kernel
theorem dX12_led_34 : decode cX12_led 34 = .ok (.bipush 11, 2) := by decide +kernel
theorem dX12_led_36 : decode cX12_led 36 = .ok (.iaload, 1) := by decide +kernel
theorem dX12_led_37 : decode cX12_led 37 = .ok (.iconst 1, 1) := by decide +kernel
theorem dX12_led_38 : decode cX12_led 38 = .ok (.isub, 1) := by decide +kernel
theorem dX12_led_39 : decode cX12_led 39 = .ok (.istore 5, 2) := by decide +kernel
theorem dX12_led_41 : decode cX12_led 41 = .ok (.iload 5, 2) := by decide +kernel
theorem dX12_led_43 : decode cX12_led 43 = .ok (.ifCond .lt 35, 3) := by decide +kernel
theorem dX12_led_46 : decode cX12_led 46 = .ok (.aload_n 0, 1) := by decide +kernel
theorem dX12_led_47 : decode cX12_led 47 = .ok (.iload 5, 2) := by decide +kernel
theorem dX12_led_49 : decode cX12_led 49 = .ok (.iconst 1, 1) := by decide +kernel
theorem dX12_led_50 : decode cX12_led 50 = .ok (.invokevirtual 352, 3) := by decide +kernel
theorem dX12_led_53 : decode cX12_led 53 = .ok (.iload_n 1, 1) := by decide +kernel
theorem dX12_led_54 : decode cX12_led 54 = .ok (.if_icmp .eq 6, 3) := by decide +kernel
theorem dX12_led_57 : decode cX12_led 57 = .ok (.goto 15, 3) := by decide +kernel
theorem dX12_led_60 : decode cX12_led 60 = .ok (.iinc 3 1, 3) := by decide +kernel
theorem dX12_led_63 : decode cX12_led 63 = .ok (.aload_n 0, 1) := by decide +kernel
theorem dX12_led_64 : decode cX12_led 64 = .ok (.iload 5, 2) := by decide +kernel
theorem dX12_led_66 : decode cX12_led 66 = .ok (.iconst 2, 1) := by decide +kernel
theorem dX12_led_67 : decode cX12_led 67 = .ok (.invokevirtual 352, 3) := by decide +kernel
theorem dX12_led_70 : decode cX12_led 70 = .ok (.istore 4, 2) := by decide +kernel
theorem dX12_led_72 : decode cX12_led 72 = .ok (.iinc 5 (-1), 3) := by decide +kernel
theorem dX12_led_75 : decode cX12_led 75 = .ok (.goto (-34), 3) := by decide +kernel
theorem dX12_led_78 : decode cX12_led 78 = .ok (.iload_n 2, 1) := by decide +kernel
theorem dX12_led_79 : decode cX12_led 79 = .ok (.ifCond .eq 8, 3) := by decide +kernel
theorem dX12_led_82 : decode cX12_led 82 = .ok (.iload 4, 2) := by decide +kernel
theorem dX12_led_84 : decode cX12_led 84 = .ok (.goto 4, 3) := by decide +kernel
theorem dX12_led_87 : decode cX12_led 87 = .ok (.iload_n 3, 1) := by decide +kernel
theorem dX12_led_88 : decode cX12_led 88 = .ok (.ireturn, 1) := by decide +kernel
theorem dX12_log_0 : decode cX12_log 0 = .ok (.aload_n 0, 1) := by decide +kernel
theorem dX12_log_1 : decode cX12_log 1 = .ok (.iload_n 2, 1) := by decide +kernel
theorem dX12_log_2 : decode cX12_log 2 = .ok (.iconst 0, 1) := by decide +kernel
theorem dX12_log_3 : decode cX12_log 3 = .ok (.iconst 3, 1) := by decide +kernel
theorem dX12_log_4 : decode cX12_log 4 = .ok (.invokestatic 58, 3) := by decide +kernel
theorem dX12_log_7 : decode cX12_log 7 = .ok (.ifCond .ne 7, 3) := by decide +kernel
theorem dX12_log_10 : decode cX12_log 10 = .ok (.iconst 1, 1) := by decide +kernel
theorem dX12_log_11 : decode cX12_log 11 = .ok (.goto 4, 3) := by decide +kernel
theorem dX12_log_14 : decode cX12_log 14 = .ok (.iconst 0, 1) := by decide +kernel
theorem dX12_log_15 : decode cX12_log 15 = .ok (.putfield 55, 3) := by decide +kernel
theorem dX12_log_18 : decode cX12_log 18 = .ok (.aload_n 0, 1) := by decide +kernel
theorem dX12_log_19 : decode cX12_log 19 = .ok (.getfield 55, 3) := by decide +kernel
theorem dX12_log_22 : decode cX12_log 22 = .ok (.ifCond .le 5, 3) := by decide +kernel
theorem dX12_log_25 : decode cX12_log 25 = .ok (.iconst 0, 1) := by decide +kernel
theorem dX12_log_26 : decode cX12_log 26 = .ok (.ireturn, 1) := by decide +kernel
theorem dX12_log_27 : decode cX12_log 27 = .ok (.iload_n 1, 1) := by decide +kernel
theorem dX12_log_28 : decode cX12_log 28 = .ok (.iconst 0, 1) := by decide +kernel
theorem dX12_log_29 : decode cX12_log 29 = .ok (.aload_n 0, 1) := by decide +kernel
theorem dX12_log_30 : decode cX12_log 30 = .ok (.getfield 7, 3) := by decide +kernel
theorem dX12_log_33 : decode cX12_log 33 = .ok (.bipush 11, 2) := by decide +kernel
theorem dX12_log_35 : decode cX12_log 35 = .ok (.iaload, 1) := by decide +kernel
theorem dX12_log_36 : decode cX12_log 36 = .ok (.iconst 1, 1) := by decide +kernel
theorem dX12_log_37 : decode cX12_log 37 = .ok (.isub, 1) := by decide +kernel
theorem dX12_log_38 : decode cX12_log 38 = .ok (.invokestatic 58, 3) := by decide +kernel
theorem dX12_log_41 : decode cX12_log 41 = .ok (.ifCond .eq 12, 3) := by decide +kernel
theorem dX12_log_44 : decode cX12_log 44 = .ok (.aload_n 0, 1) := by decide +kernel
theorem dX12_log_45 : decode cX12_log 45 = .ok (.iload_n 1, 1) := by decide +kernel
theorem dX12_log_46 : decode cX12_log 46 = .ok (.iload_n 2, 1) := by decide +kernel
theorem dX12_log_47 : decode cX12_log 47 = .ok (.invokevirtual 352, 3) := by decide +kernel
theorem dX12_log_50 : decode cX12_log 50 = .ok (.goto 4, 3) := by decide +kernel
theorem dX12_log_53 : decode cX12_log 53 = .ok (.iconst (-1), 1) := by decide +kernel
theorem dX12_log_54 : decode cX12_log 54 = .ok (.ireturn, 1) := by decide +kernel
theorem dX12_seed_0 : decode cX12_seed 0 = .ok (.aload_n 0, 1) := by decide +kernel
theorem dX12_seed_1 : decode cX12_seed 1 = .ok (.iconst 0, 1) := by decide +kernel
theorem dX12_seed_2 : decode cX12_seed 2 = .ok (.putfield 55, 3) := by decide +kernel
theorem dX12_seed_5 : decode cX12_seed 5 = .ok (.aload_n 0, 1) := by decide +kernel
theorem dX12_seed_6 : decode cX12_seed 6 = .ok (.getfield 7, 3) := by decide +kernel
theorem dX12_seed_9 : decode cX12_seed 9 = .ok (.bipush 12, 2) := by decide +kernel
theorem dX12_seed_11 : decode cX12_seed 11 = .ok (.iaload, 1) := by decide +kernel
theorem dX12_seed_12 : decode cX12_seed 12 = .ok (.istore_n 2, 1) := by decide +kernel
theorem dX12_seed_13 : decode cX12_seed 13 = .ok (.aload_n 0, 1) := by decide +kernel
theorem dX12_seed_14 : decode cX12_seed 14 = .ok (.getfield 7, 3) := by decide +kernel
theorem dX12_seed_17 : decode cX12_seed 17 = .ok (.bipush 12, 2) := by decide +kernel
theorem dX12_seed_19 : decode cX12_seed 19 = .ok (.iload_n 1, 1) := by decide +kernel
theorem dX12_seed_20 : decode cX12_seed 20 = .ok (.iastore, 1) := by decide +kernel
theorem dX12_seed_21 : decode cX12_seed 21 = .ok (.iload_n 2, 1) := by decide +kernel
theorem dX12_seed_22 : decode cX12_seed 22 = .ok (.ireturn, 1) := by decide +kernel
theorem dX12_undo_0 : decode cX12_undo 0 = .ok (.aload_n 0, 1) := by decide +kernel
theorem dX12_undo_1 : decode cX12_undo 1 = .ok (.iconst 0, 1) := by decide +kernel
theorem dX12_undo_2 : decode cX12_undo 2 = .ok (.putfield 55, 3) := by decide +kernel
theorem dX12_undo_5 : decode cX12_undo 5 = .ok (.aload_n 0, 1) := by decide +kernel
theorem dX12_undo_6 : decode cX12_undo 6 = .ok (.getfield 187, 3) := by decide +kernel
theorem dX12_undo_9 : decode cX12_undo 9 = .ok (.ifCond .ne 5, 3) := by decide +kernel
theorem dX12_undo_12 : decode cX12_undo 12 = .ok (.iconst 0, 1) := by decide +kernel
theorem dX12_undo_13 : decode cX12_undo 13 = .ok (.ireturn, 1) := by decide +kernel
theorem dX12_undo_14 : decode cX12_undo 14 = .ok (.aload_n 0, 1) := by decide +kernel
theorem dX12_undo_15 : decode cX12_undo 15 = .ok (.dup, 1) := by decide +kernel
theorem dX12_undo_16 : decode cX12_undo 16 = .ok (.getfield 187, 3) := by decide +kernel
theorem dX12_undo_19 : decode cX12_undo 19 = .ok (.iconst 1, 1) := by decide +kernel
theorem dX12_undo_20 : decode cX12_undo 20 = .ok (.isub, 1) := by decide +kernel
theorem dX12_undo_21 : decode cX12_undo 21 = .ok (.putfield 187, 3) := by decide +kernel
theorem dX12_undo_24 : decode cX12_undo 24 = .ok (.iconst 0, 1) := by decide +kernel
theorem dX12_undo_25 : decode cX12_undo 25 = .ok (.istore_n 1, 1) := by decide +kernel
theorem dX12_undo_26 : decode cX12_undo 26 = .ok (.iload_n 1, 1) := by decide +kernel
theorem dX12_undo_27 : decode cX12_undo 27 = .ok (.sipush 350, 3) := by decide +kernel
theorem dX12_undo_30 : decode cX12_undo 30 = .ok (.if_icmp .ge 30, 3) := by decide +kernel
theorem dX12_undo_33 : decode cX12_undo 33 = .ok (.aload_n 0, 1) := by decide +kernel
theorem dX12_undo_34 : decode cX12_undo 34 = .ok (.getfield 7, 3) := by decide +kernel
theorem dX12_undo_37 : decode cX12_undo 37 = .ok (.iload_n 1, 1) := by decide +kernel
theorem dX12_undo_38 : decode cX12_undo 38 = .ok (.aload_n 0, 1) := by decide +kernel
theorem dX12_undo_39 : decode cX12_undo 39 = .ok (.getfield 22, 3) := by decide +kernel
theorem dX12_undo_42 : decode cX12_undo 42 = .ok (.sipush 350, 3) := by decide +kernel
theorem dX12_undo_45 : decode cX12_undo 45 = .ok (.aload_n 0, 1) := by decide +kernel
theorem dX12_undo_46 : decode cX12_undo 46 = .ok (.getfield 187, 3) := by decide +kernel
theorem dX12_undo_49 : decode cX12_undo 49 = .ok (.imul, 1) := by decide +kernel
theorem dX12_undo_50 : decode cX12_undo 50 = .ok (.iload_n 1, 1) := by decide +kernel
theorem dX12_undo_51 : decode cX12_undo 51 = .ok (.iadd, 1) := by decide +kernel
theorem dX12_undo_52 : decode cX12_undo 52 = .ok (.iaload, 1) := by decide +kernel
theorem dX12_undo_53 : decode cX12_undo 53 = .ok (.iastore, 1) := by decide +kernel
theorem dX12_undo_54 : decode cX12_undo 54 = .ok (.iinc 1 1, 3) := by decide +kernel
theorem dX12_undo_57 : decode cX12_undo 57 = .ok (.goto (-31), 3) := by decide +kernel
theorem dX12_undo_60 : decode cX12_undo 60 = .ok (.iconst 1, 1) := by decide +kernel
theorem dX12_undo_61 : decode cX12_undo 61 = .ok (.ireturn, 1) := by decide +kernel
theorem dX12_image_0 : decode cX12_image 0 = .ok (.aload_n 0, 1) := by decide +kernel
theorem dX12_image_1 : decode cX12_image 1 = .ok (.iconst 0, 1) := by decide +kernel
theorem dX12_image_2 : decode cX12_image 2 = .ok (.putfield 55, 3) := by decide +kernel
theorem dX12_image_5 : decode cX12_image 5 = .ok (.iconst 0, 1) := by decide +kernel
theorem dX12_image_6 : decode cX12_image 6 = .ok (.istore_n 1, 1) := by decide +kernel
theorem dX12_image_7 : decode cX12_image 7 = .ok (.iload_n 1, 1) := by decide +kernel
theorem dX12_image_8 : decode cX12_image 8 = .ok (.sipush 750, 3) := by decide +kernel
theorem dX12_image_11 : decode cX12_image 11 = .ok (.if_icmp .ge 21, 3) := by decide +kernel
theorem dX12_image_14 : decode cX12_image 14 = .ok (.aload_n 0, 1) := by decide +kernel
theorem dX12_image_15 : decode cX12_image 15 = .ok (.getfield 13, 3) := by decide +kernel
theorem dX12_image_18 : decode cX12_image 18 = .ok (.iload_n 1, 1) := by decide +kernel
theorem dX12_image_19 : decode cX12_image 19 = .ok (.aload_n 0, 1) := by decide +kernel
theorem dX12_image_20 : decode cX12_image 20 = .ok (.getfield 7, 3) := by decide +kernel
theorem dX12_image_23 : decode cX12_image 23 = .ok (.iload_n 1, 1) := by decide +kernel
theorem dX12_image_24 : decode cX12_image 24 = .ok (.iaload, 1) := by decide +kernel
theorem dX12_image_25 : decode cX12_image 25 = .ok (.iastore, 1) := by decide +kernel
theorem dX12_image_26 : decode cX12_image 26 = .ok (.iinc 1 1, 3) := by decide +kernel
theorem dX12_image_29 : decode cX12_image 29 = .ok (.goto (-22), 3) := by decide +kernel
theorem dX12_image_32 : decode cX12_image 32 = .ok (.aload_n 0, 1) := by decide +kernel
theorem dX12_image_33 : decode cX12_image 33 = .ok (.iconst 1, 1) := by decide +kernel
theorem dX12_image_34 : decode cX12_image 34 = .ok (.putfield 347, 3) := by decide +kernel
theorem dX12_image_37 : decode cX12_image 37 = .ok (.return_, 1) := by decide +kernel
theorem dX12_back_0 : decode cX12_back 0 = .ok (.aload_n 0, 1) := by decide +kernel
theorem dX12_back_1 : decode cX12_back 1 = .ok (.iconst 0, 1) := by decide +kernel
theorem dX12_back_2 : decode cX12_back 2 = .ok (.putfield 55, 3) := by decide +kernel
theorem dX12_back_5 : decode cX12_back 5 = .ok (.aload_n 0, 1) := by decide +kernel
theorem dX12_back_6 : decode cX12_back 6 = .ok (.getfield 347, 3) := by decide +kernel
theorem dX12_back_9 : decode cX12_back 9 = .ok (.ifCond .ne 5, 3) := by decide +kernel
theorem dX12_back_12 : decode cX12_back 12 = .ok (.iconst 0, 1) := by decide +kernel
theorem dX12_back_13 : decode cX12_back 13 = .ok (.ireturn, 1) := by decide +kernel
theorem dX12_back_14 : decode cX12_back 14 = .ok (.iconst 0, 1) := by decide +kernel
theorem dX12_back_15 : decode cX12_back 15 = .ok (.istore_n 1, 1) := by decide +kernel
theorem dX12_back_16 : decode cX12_back 16 = .ok (.iload_n 1, 1) := by decide +kernel
theorem dX12_back_17 : decode cX12_back 17 = .ok (.sipush 750, 3) := by decide +kernel
theorem dX12_back_20 : decode cX12_back 20 = .ok (.if_icmp .ge 21, 3) := by decide +kernel
theorem dX12_back_23 : decode cX12_back 23 = .ok (.aload_n 0, 1) := by decide +kernel
theorem dX12_back_24 : decode cX12_back 24 = .ok (.getfield 7, 3) := by decide +kernel
theorem dX12_back_27 : decode cX12_back 27 = .ok (.iload_n 1, 1) := by decide +kernel
theorem dX12_back_28 : decode cX12_back 28 = .ok (.aload_n 0, 1) := by decide +kernel
theorem dX12_back_29 : decode cX12_back 29 = .ok (.getfield 13, 3) := by decide +kernel
theorem dX12_back_32 : decode cX12_back 32 = .ok (.iload_n 1, 1) := by decide +kernel
theorem dX12_back_33 : decode cX12_back 33 = .ok (.iaload, 1) := by decide +kernel
theorem dX12_back_34 : decode cX12_back 34 = .ok (.iastore, 1) := by decide +kernel
theorem dX12_back_35 : decode cX12_back 35 = .ok (.iinc 1 1, 3) := by decide +kernel
theorem dX12_back_38 : decode cX12_back 38 = .ok (.goto (-22), 3) := by decide +kernel
theorem dX12_back_41 : decode cX12_back 41 = .ok (.aload_n 0, 1) := by decide +kernel
theorem dX12_back_42 : decode cX12_back 42 = .ok (.iconst 0, 1) := by decide +kernel
theorem dX12_back_43 : decode cX12_back 43 = .ok (.putfield 187, 3) := by decide +kernel
theorem dX12_back_46 : decode cX12_back 46 = .ok (.iconst 1, 1) := by decide +kernel
theorem dX12_back_47 : decode cX12_back 47 = .ok (.ireturn, 1) := by decide +kernel
theorem dX12_such_0 : decode cX12_such 0 = .ok (.iconst 0, 1) := by decide +kernel
theorem dX12_such_1 : decode cX12_such 1 = .ok (.istore_n 2, 1) := by decide +kernel
theorem dX12_such_2 : decode cX12_such 2 = .ok (.iconst 0, 1) := by decide +kernel
theorem dX12_such_3 : decode cX12_such 3 = .ok (.istore_n 3, 1) := by decide +kernel
theorem dX12_such_4 : decode cX12_such 4 = .ok (.iload_n 3, 1) := by decide +kernel
theorem dX12_such_5 : decode cX12_such 5 = .ok (.bipush 8, 2) := by decide +kernel
theorem dX12_such_7 : decode cX12_such 7 = .ok (.if_icmp .ge 28, 3) := by decide +kernel
theorem dX12_such_10 : decode cX12_such 10 = .ok (.iload_n 2, 1) := by decide +kernel
theorem dX12_such_11 : decode cX12_such 11 = .ok (.aload_n 0, 1) := by decide +kernel
theorem dX12_such_12 : decode cX12_such 12 = .ok (.iload_n 3, 1) := by decide +kernel
theorem dX12_such_13 : decode cX12_such 13 = .ok (.iload_n 1, 1) := by decide +kernel
theorem dX12_such_14 : decode cX12_such 14 = .ok (.invokevirtual 62, 3) := by decide +kernel
theorem dX12_such_17 : decode cX12_such 17 = .ok (.ifCond .le 9, 3) := by decide +kernel
theorem dX12_such_20 : decode cX12_such 20 = .ok (.iconst 1, 1) := by decide +kernel
theorem dX12_such_21 : decode cX12_such 21 = .ok (.iload_n 3, 1) := by decide +kernel
theorem dX12_such_22 : decode cX12_such 22 = .ok (.ishl, 1) := by decide +kernel
theorem dX12_such_23 : decode cX12_such 23 = .ok (.goto 4, 3) := by decide +kernel
theorem dX12_such_26 : decode cX12_such 26 = .ok (.iconst 0, 1) := by decide +kernel
theorem dX12_such_27 : decode cX12_such 27 = .ok (.ior, 1) := by decide +kernel
theorem dX12_such_28 : decode cX12_such 28 = .ok (.istore_n 2, 1) := by decide +kernel
theorem dX12_such_29 : decode cX12_such 29 = .ok (.iinc 3 1, 3) := by decide +kernel
theorem dX12_such_32 : decode cX12_such 32 = .ok (.goto (-28), 3) := by decide +kernel
theorem dX12_such_35 : decode cX12_such 35 = .ok (.iload_n 2, 1) := by decide +kernel
theorem dX12_such_36 : decode cX12_such 36 = .ok (.ireturn, 1) := by decide +kernel
theorem dX12_count_0 : decode cX12_count 0 = .ok (.aload_n 0, 1) := by decide +kernel
theorem dX12_count_1 : decode cX12_count 1 = .ok (.iconst 0, 1) := by decide +kernel
theorem dX12_count_2 : decode cX12_count 2 = .ok (.putfield 55, 3) := by decide +kernel
theorem dX12_count_5 : decode cX12_count 5 = .ok (.iload_n 1, 1) := by decide +kernel
theorem dX12_count_6 : decode cX12_count 6 = .ok (.ifCond .ne 10, 3) := by decide +kernel
theorem dX12_count_9 : decode cX12_count 9 = .ok (.aload_n 0, 1) := by decide +kernel
theorem dX12_count_10 : decode cX12_count 10 = .ok (.getfield 7, 3) := by decide +kernel
theorem dX12_count_13 : decode cX12_count 13 = .ok (.iconst 3, 1) := by decide +kernel
theorem dX12_count_14 : decode cX12_count 14 = .ok (.iaload, 1) := by decide +kernel
theorem dX12_count_15 : decode cX12_count 15 = .ok (.ireturn, 1) := by decide +kernel
theorem dX12_count_16 : decode cX12_count 16 = .ok (.iload_n 1, 1) := by decide +kernel
theorem dX12_count_17 : decode cX12_count 17 = .ok (.iconst 1, 1) := by decide +kernel
theorem dX12_count_18 : decode cX12_count 18 = .ok (.if_icmp .ne 10, 3) := by decide +kernel
theorem dX12_count_21 : decode cX12_count 21 = .ok (.aload_n 0, 1) := by decide +kernel
theorem dX12_count_22 : decode cX12_count 22 = .ok (.getfield 7, 3) := by decide +kernel
theorem dX12_count_25 : decode cX12_count 25 = .ok (.iconst 4, 1) := by decide +kernel
theorem dX12_count_26 : decode cX12_count 26 = .ok (.iaload, 1) := by decide +kernel
theorem dX12_count_27 : decode cX12_count 27 = .ok (.ireturn, 1) := by decide +kernel
theorem dX12_count_28 : decode cX12_count 28 = .ok (.iload_n 1, 1) := by decide +kernel
theorem dX12_count_29 : decode cX12_count 29 = .ok (.iconst 2, 1) := by decide +kernel
theorem dX12_count_30 : decode cX12_count 30 = .ok (.if_icmp .ne 10, 3) := by decide +kernel
theorem dX12_count_33 : decode cX12_count 33 = .ok (.aload_n 0, 1) := by decide +kernel
theorem dX12_count_34 : decode cX12_count 34 = .ok (.getfield 7, 3) := by decide +kernel
theorem dX12_count_37 : decode cX12_count 37 = .ok (.iconst 0, 1) := by decide +kernel
theorem dX12_count_38 : decode cX12_count 38 = .ok (.iaload, 1) := by decide +kernel
theorem dX12_count_39 : decode cX12_count 39 = .ok (.ireturn, 1) := by decide +kernel
theorem dX12_count_40 : decode cX12_count 40 = .ok (.iload_n 1, 1) := by decide +kernel
theorem dX12_count_41 : decode cX12_count 41 = .ok (.iconst 3, 1) := by decide +kernel
theorem dX12_count_42 : decode cX12_count 42 = .ok (.if_icmp .ne 10, 3) := by decide +kernel
theorem dX12_count_45 : decode cX12_count 45 = .ok (.aload_n 0, 1) := by decide +kernel
theorem dX12_count_46 : decode cX12_count 46 = .ok (.getfield 7, 3) := by decide +kernel
theorem dX12_count_49 : decode cX12_count 49 = .ok (.iconst 1, 1) := by decide +kernel
theorem dX12_count_50 : decode cX12_count 50 = .ok (.iaload, 1) := by decide +kernel
theorem dX12_count_51 : decode cX12_count 51 = .ok (.ireturn, 1) := by decide +kernel
theorem dX12_count_52 : decode cX12_count 52 = .ok (.iload_n 1, 1) := by decide +kernel
theorem dX12_count_53 : decode cX12_count 53 = .ok (.iconst 4, 1) := by decide +kernel
theorem dX12_count_54 : decode cX12_count 54 = .ok (.if_icmp .ne 11, 3) := by decide +kernel
theorem dX12_count_57 : decode cX12_count 57 = .ok (.aload_n 0, 1) := by decide +kernel
theorem dX12_count_58 : decode cX12_count 58 = .ok (.getfield 7, 3) := by decide +kernel
theorem dX12_count_61 : decode cX12_count 61 = .ok (.bipush 9, 2) := by decide +kernel
theorem dX12_count_63 : decode cX12_count 63 = .ok (.iaload, 1) := by decide +kernel
theorem dX12_count_64 : decode cX12_count 64 = .ok (.ireturn, 1) := by decide +kernel
theorem dX12_count_65 : decode cX12_count 65 = .ok (.iload_n 1, 1) := by decide +kernel
theorem dX12_count_66 : decode cX12_count 66 = .ok (.iconst 5, 1) := by decide +kernel
theorem dX12_count_67 : decode cX12_count 67 = .ok (.if_icmp .ne 11, 3) := by decide +kernel
theorem dX12_count_70 : decode cX12_count 70 = .ok (.aload_n 0, 1) := by decide +kernel
theorem dX12_count_71 : decode cX12_count 71 = .ok (.getfield 7, 3) := by decide +kernel
theorem dX12_count_74 : decode cX12_count 74 = .ok (.bipush 10, 2) := by decide +kernel
theorem dX12_count_76 : decode cX12_count 76 = .ok (.iaload, 1) := by decide +kernel
theorem dX12_count_77 : decode cX12_count 77 = .ok (.ireturn, 1) := by decide +kernel
theorem dX12_count_78 : decode cX12_count 78 = .ok (.iload_n 1, 1) := by decide +kernel
theorem dX12_count_79 : decode cX12_count 79 = .ok (.bipush 6, 2) := by decide +kernel
theorem dX12_count_81 : decode cX12_count 81 = .ok (.bipush 9, 2) := by decide +kernel
theorem dX12_count_83 : decode cX12_count 83 = .ok (.invokestatic 58, 3) := by decide +kernel
theorem dX12_count_86 : decode cX12_count 86 = .ok (.ifCond .eq 15, 3) := by decide +kernel
theorem dX12_count_89 : decode cX12_count 89 = .ok (.aload_n 0, 1) := by decide +kernel
theorem dX12_count_90 : decode cX12_count 90 = .ok (.getfield 7, 3) := by decide +kernel
theorem dX12_count_93 : decode cX12_count 93 = .ok (.iconst 5, 1) := by decide +kernel
theorem dX12_count_94 : decode cX12_count 94 = .ok (.iload_n 1, 1) := by decide +kernel
theorem dX12_count_95 : decode cX12_count 95 = .ok (.iadd, 1) := by decide +kernel
theorem dX12_count_96 : decode cX12_count 96 = .ok (.bipush 6, 2) := by decide +kernel
theorem dX12_count_98 : decode cX12_count 98 = .ok (.isub, 1) := by decide +kernel
theorem dX12_count_99 : decode cX12_count 99 = .ok (.iaload, 1) := by decide +kernel
theorem dX12_count_100 : decode cX12_count 100 = .ok (.ireturn, 1) := by decide +kernel
theorem dX12_count_101 : decode cX12_count 101 = .ok (.iload_n 1, 1) := by decide +kernel
theorem dX12_count_102 : decode cX12_count 102 = .ok (.bipush 10, 2) := by decide +kernel
theorem dX12_count_104 : decode cX12_count 104 = .ok (.if_icmp .ne 9, 3) := by decide +kernel
theorem dX12_count_107 : decode cX12_count 107 = .ok (.aload_n 0, 1) := by decide +kernel
theorem dX12_count_108 : decode cX12_count 108 = .ok (.iconst 4, 1) := by decide +kernel
theorem dX12_count_109 : decode cX12_count 109 = .ok (.invokevirtual 355, 3) := by decide +kernel
theorem dX12_count_112 : decode cX12_count 112 = .ok (.ireturn, 1) := by decide +kernel
theorem dX12_count_113 : decode cX12_count 113 = .ok (.iload_n 1, 1) := by decide +kernel
theorem dX12_count_114 : decode cX12_count 114 = .ok (.bipush 11, 2) := by decide +kernel
theorem dX12_count_116 : decode cX12_count 116 = .ok (.if_icmp .ne 9, 3) := by decide +kernel
theorem dX12_count_119 : decode cX12_count 119 = .ok (.aload_n 0, 1) := by decide +kernel
theorem dX12_count_120 : decode cX12_count 120 = .ok (.iconst 2, 1) := by decide +kernel
theorem dX12_count_121 : decode cX12_count 121 = .ok (.invokevirtual 355, 3) := by decide +kernel
theorem dX12_count_124 : decode cX12_count 124 = .ok (.ireturn, 1) := by decide +kernel
theorem dX12_count_125 : decode cX12_count 125 = .ok (.iload_n 1, 1) := by decide +kernel
theorem dX12_count_126 : decode cX12_count 126 = .ok (.bipush 12, 2) := by decide +kernel
theorem dX12_count_128 : decode cX12_count 128 = .ok (.if_icmp .ne 11, 3) := by decide +kernel
theorem dX12_count_131 : decode cX12_count 131 = .ok (.aload_n 0, 1) := by decide +kernel
theorem dX12_count_132 : decode cX12_count 132 = .ok (.getfield 7, 3) := by decide +kernel
theorem dX12_count_135 : decode cX12_count 135 = .ok (.bipush 11, 2) := by decide +kernel
theorem dX12_count_137 : decode cX12_count 137 = .ok (.iaload, 1) := by decide +kernel
theorem dX12_count_138 : decode cX12_count 138 = .ok (.ireturn, 1) := by decide +kernel
theorem dX12_count_139 : decode cX12_count 139 = .ok (.iload_n 1, 1) := by decide +kernel
theorem dX12_count_140 : decode cX12_count 140 = .ok (.bipush 13, 2) := by decide +kernel
theorem dX12_count_142 : decode cX12_count 142 = .ok (.if_icmp .ne 10, 3) := by decide +kernel
theorem dX12_count_145 : decode cX12_count 145 = .ok (.aload_n 0, 1) := by decide +kernel
theorem dX12_count_146 : decode cX12_count 146 = .ok (.getfield 187, 3) := by decide +kernel
theorem dX12_count_149 : decode cX12_count 149 = .ok (.goto 4, 3) := by decide +kernel
theorem dX12_count_152 : decode cX12_count 152 = .ok (.iconst (-1), 1) := by decide +kernel
theorem dX12_count_153 : decode cX12_count 153 = .ok (.ireturn, 1) := by decide +kernel
theorem dJ6_bitCount_0f7a4_0 : decode cJ6_bitCount_0f7a4 0 = .ok (.iload_n 0, 1) := by decide +kernel
theorem dJ6_bitCount_0f7a4_1 : decode cJ6_bitCount_0f7a4 1 = .ok (.iload_n 0, 1) := by decide +kernel
theorem dJ6_bitCount_0f7a4_2 : decode cJ6_bitCount_0f7a4 2 = .ok (.iconst 1, 1) := by decide +kernel
theorem dJ6_bitCount_0f7a4_3 : decode cJ6_bitCount_0f7a4 3 = .ok (.iushr, 1) := by decide +kernel
theorem dJ6_bitCount_0f7a4_4 : decode cJ6_bitCount_0f7a4 4 = .ok (.ldc_w 265, 3) := by decide +kernel
theorem dJ6_bitCount_0f7a4_7 : decode cJ6_bitCount_0f7a4 7 = .ok (.iand, 1) := by decide +kernel
theorem dJ6_bitCount_0f7a4_8 : decode cJ6_bitCount_0f7a4 8 = .ok (.isub, 1) := by decide +kernel
theorem dJ6_bitCount_0f7a4_9 : decode cJ6_bitCount_0f7a4 9 = .ok (.istore_n 0, 1) := by decide +kernel
theorem dJ6_bitCount_0f7a4_10 : decode cJ6_bitCount_0f7a4 10 = .ok (.iload_n 0, 1) := by decide +kernel
theorem dJ6_bitCount_0f7a4_11 : decode cJ6_bitCount_0f7a4 11 = .ok (.ldc_w 266, 3) := by decide +kernel
theorem dJ6_bitCount_0f7a4_14 : decode cJ6_bitCount_0f7a4 14 = .ok (.iand, 1) := by decide +kernel
theorem dJ6_bitCount_0f7a4_15 : decode cJ6_bitCount_0f7a4 15 = .ok (.iload_n 0, 1) := by decide +kernel
theorem dJ6_bitCount_0f7a4_16 : decode cJ6_bitCount_0f7a4 16 = .ok (.iconst 2, 1) := by decide +kernel
theorem dJ6_bitCount_0f7a4_17 : decode cJ6_bitCount_0f7a4 17 = .ok (.iushr, 1) := by decide +kernel
theorem dJ6_bitCount_0f7a4_18 : decode cJ6_bitCount_0f7a4 18 = .ok (.ldc_w 266, 3) := by decide +kernel
theorem dJ6_bitCount_0f7a4_21 : decode cJ6_bitCount_0f7a4 21 = .ok (.iand, 1) := by decide +kernel
theorem dJ6_bitCount_0f7a4_22 : decode cJ6_bitCount_0f7a4 22 = .ok (.iadd, 1) := by decide +kernel
theorem dJ6_bitCount_0f7a4_23 : decode cJ6_bitCount_0f7a4 23 = .ok (.istore_n 0, 1) := by decide +kernel
theorem dJ6_bitCount_0f7a4_24 : decode cJ6_bitCount_0f7a4 24 = .ok (.iload_n 0, 1) := by decide +kernel
theorem dJ6_bitCount_0f7a4_25 : decode cJ6_bitCount_0f7a4 25 = .ok (.iload_n 0, 1) := by decide +kernel
theorem dJ6_bitCount_0f7a4_26 : decode cJ6_bitCount_0f7a4 26 = .ok (.iconst 4, 1) := by decide +kernel
theorem dJ6_bitCount_0f7a4_27 : decode cJ6_bitCount_0f7a4 27 = .ok (.iushr, 1) := by decide +kernel
theorem dJ6_bitCount_0f7a4_28 : decode cJ6_bitCount_0f7a4 28 = .ok (.iadd, 1) := by decide +kernel
theorem dJ6_bitCount_0f7a4_29 : decode cJ6_bitCount_0f7a4 29 = .ok (.ldc_w 267, 3) := by decide +kernel
theorem dJ6_bitCount_0f7a4_32 : decode cJ6_bitCount_0f7a4 32 = .ok (.iand, 1) := by decide +kernel
theorem dJ6_bitCount_0f7a4_33 : decode cJ6_bitCount_0f7a4 33 = .ok (.istore_n 0, 1) := by decide +kernel
theorem dJ6_bitCount_0f7a4_34 : decode cJ6_bitCount_0f7a4 34 = .ok (.iload_n 0, 1) := by decide +kernel
theorem dJ6_bitCount_0f7a4_35 : decode cJ6_bitCount_0f7a4 35 = .ok (.iload_n 0, 1) := by decide +kernel
theorem dJ6_bitCount_0f7a4_36 : decode cJ6_bitCount_0f7a4 36 = .ok (.bipush 8, 2) := by decide +kernel
theorem dJ6_bitCount_0f7a4_38 : decode cJ6_bitCount_0f7a4 38 = .ok (.iushr, 1) := by decide +kernel
theorem dJ6_bitCount_0f7a4_39 : decode cJ6_bitCount_0f7a4 39 = .ok (.iadd, 1) := by decide +kernel
theorem dJ6_bitCount_0f7a4_40 : decode cJ6_bitCount_0f7a4 40 = .ok (.istore_n 0, 1) := by decide +kernel
theorem dJ6_bitCount_0f7a4_41 : decode cJ6_bitCount_0f7a4 41 = .ok (.iload_n 0, 1) := by decide +kernel
theorem dJ6_bitCount_0f7a4_42 : decode cJ6_bitCount_0f7a4 42 = .ok (.iload_n 0, 1) := by decide +kernel
theorem dJ6_bitCount_0f7a4_43 : decode cJ6_bitCount_0f7a4 43 = .ok (.bipush 16, 2) := by decide +kernel
theorem dJ6_bitCount_0f7a4_45 : decode cJ6_bitCount_0f7a4 45 = .ok (.iushr, 1) := by decide +kernel
theorem dJ6_bitCount_0f7a4_46 : decode cJ6_bitCount_0f7a4 46 = .ok (.iadd, 1) := by decide +kernel
theorem dJ6_bitCount_0f7a4_47 : decode cJ6_bitCount_0f7a4 47 = .ok (.istore_n 0, 1) := by decide +kernel
theorem dJ6_bitCount_0f7a4_48 : decode cJ6_bitCount_0f7a4 48 = .ok (.iload_n 0, 1) := by decide +kernel
theorem dJ6_bitCount_0f7a4_49 : decode cJ6_bitCount_0f7a4 49 = .ok (.bipush 63, 2) := by decide +kernel
theorem dJ6_bitCount_0f7a4_51 : decode cJ6_bitCount_0f7a4 51 = .ok (.iand, 1) := by decide +kernel
theorem dJ6_bitCount_0f7a4_52 : decode cJ6_bitCount_0f7a4 52 = .ok (.ireturn, 1) := by decide +kernel
theorem dJ9_abs_0f7a4_0 : decode cJ9_abs_0f7a4 0 = .ok (.iload_n 0, 1) := by decide +kernel
theorem dJ9_abs_0f7a4_1 : decode cJ9_abs_0f7a4 1 = .ok (.ifCond .ge 8, 3) := by decide +kernel
theorem dJ9_abs_0f7a4_4 : decode cJ9_abs_0f7a4 4 = .ok (.iload_n 0, 1) := by decide +kernel
theorem dJ9_abs_0f7a4_5 : decode cJ9_abs_0f7a4 5 = .ok (.ineg, 1) := by decide +kernel
theorem dJ9_abs_0f7a4_6 : decode cJ9_abs_0f7a4 6 = .ok (.goto 4, 3) := by decide +kernel
theorem dJ9_abs_0f7a4_9 : decode cJ9_abs_0f7a4 9 = .ok (.iload_n 0, 1) := by decide +kernel
theorem dJ9_abs_0f7a4_10 : decode cJ9_abs_0f7a4 10 = .ok (.ireturn, 1) := by decide +kernel
theorem dJ9_max_7cf53_0 : decode cJ9_max_7cf53 0 = .ok (.iload_n 0, 1) := by decide +kernel
theorem dJ9_max_7cf53_1 : decode cJ9_max_7cf53 1 = .ok (.iload_n 1, 1) := by decide +kernel
theorem dJ9_max_7cf53_2 : decode cJ9_max_7cf53 2 = .ok (.if_icmp .lt 7, 3) := by decide +kernel
theorem dJ9_max_7cf53_5 : decode cJ9_max_7cf53 5 = .ok (.iload_n 0, 1) := by decide +kernel
theorem dJ9_max_7cf53_6 : decode cJ9_max_7cf53 6 = .ok (.goto 4, 3) := by decide +kernel
theorem dJ9_max_7cf53_9 : decode cJ9_max_7cf53 9 = .ok (.iload_n 1, 1) := by decide +kernel
theorem dJ9_max_7cf53_10 : decode cJ9_max_7cf53 10 = .ok (.ireturn, 1) := by decide +kernel
theorem dJ9_min_7cf53_0 : decode cJ9_min_7cf53 0 = .ok (.iload_n 0, 1) := by decide +kernel
theorem dJ9_min_7cf53_1 : decode cJ9_min_7cf53 1 = .ok (.iload_n 1, 1) := by decide +kernel
theorem dJ9_min_7cf53_2 : decode cJ9_min_7cf53 2 = .ok (.if_icmp .gt 7, 3) := by decide +kernel
theorem dJ9_min_7cf53_5 : decode cJ9_min_7cf53 5 = .ok (.iload_n 0, 1) := by decide +kernel
theorem dJ9_min_7cf53_6 : decode cJ9_min_7cf53 6 = .ok (.goto 4, 3) := by decide +kernel
theorem dJ9_min_7cf53_9 : decode cJ9_min_7cf53 9 = .ok (.iload_n 1, 1) := by decide +kernel
theorem dJ9_min_7cf53_10 : decode cJ9_min_7cf53 10 = .ok (.ireturn, 1) := by decide +kernel
theorem dJ0_length_8abf5_0 : decode cJ0_length_8abf5 0 = .ok (.aload_n 0, 1) := by decide +kernel
theorem dJ0_length_8abf5_1 : decode cJ0_length_8abf5 1 = .ok (.getfield 9, 3) := by decide +kernel
theorem dJ0_length_8abf5_4 : decode cJ0_length_8abf5 4 = .ok (.arraylength, 1) := by decide +kernel
theorem dJ0_length_8abf5_5 : decode cJ0_length_8abf5 5 = .ok (.aload_n 0, 1) := by decide +kernel
theorem dJ0_length_8abf5_6 : decode cJ0_length_8abf5 6 = .ok (.invokevirtual 335, 3) := by decide +kernel
theorem dJ0_length_8abf5_9 : decode cJ0_length_8abf5 9 = .ok (.ishr, 1) := by decide +kernel
theorem dJ0_length_8abf5_10 : decode cJ0_length_8abf5 10 = .ok (.ireturn, 1) := by decide +kernel
theorem dJ0_charAt_5068e_0 : decode cJ0_charAt_5068e 0 = .ok (.aload_n 0, 1) := by decide +kernel
theorem dJ0_charAt_5068e_1 : decode cJ0_charAt_5068e 1 = .ok (.invokevirtual 492, 3) := by decide +kernel
theorem dJ0_charAt_5068e_4 : decode cJ0_charAt_5068e 4 = .ok (.ifCond .eq 12, 3) := by decide +kernel
theorem dJ0_charAt_5068e_7 : decode cJ0_charAt_5068e 7 = .ok (.aload_n 0, 1) := by decide +kernel
theorem dJ0_charAt_5068e_8 : decode cJ0_charAt_5068e 8 = .ok (.getfield 9, 3) := by decide +kernel
theorem dJ0_charAt_5068e_11 : decode cJ0_charAt_5068e 11 = .ok (.iload_n 1, 1) := by decide +kernel
theorem dJ0_charAt_5068e_12 : decode cJ0_charAt_5068e 12 = .ok (.invokestatic 495, 3) := by decide +kernel
theorem dJ0_charAt_5068e_15 : decode cJ0_charAt_5068e 15 = .ok (.ireturn, 1) := by decide +kernel
theorem dJ0_charAt_5068e_16 : decode cJ0_charAt_5068e 16 = .ok (.aload_n 0, 1) := by decide +kernel
theorem dJ0_charAt_5068e_17 : decode cJ0_charAt_5068e 17 = .ok (.getfield 9, 3) := by decide +kernel
theorem dJ0_charAt_5068e_20 : decode cJ0_charAt_5068e 20 = .ok (.iload_n 1, 1) := by decide +kernel
theorem dJ0_charAt_5068e_21 : decode cJ0_charAt_5068e 21 = .ok (.invokestatic 498, 3) := by decide +kernel
theorem dJ0_charAt_5068e_24 : decode cJ0_charAt_5068e 24 = .ok (.ireturn, 1) := by decide +kernel
theorem dJ0_coder_7d493_0 : decode cJ0_coder_7d493 0 = .ok (.getstatic 38, 3) := by decide +kernel
theorem dJ0_coder_7d493_3 : decode cJ0_coder_7d493 3 = .ok (.ifCond .eq 10, 3) := by decide +kernel
theorem dJ0_coder_7d493_6 : decode cJ0_coder_7d493 6 = .ok (.aload_n 0, 1) := by decide +kernel
theorem dJ0_coder_7d493_7 : decode cJ0_coder_7d493 7 = .ok (.getfield 15, 3) := by decide +kernel
theorem dJ0_coder_7d493_10 : decode cJ0_coder_7d493 10 = .ok (.goto 4, 3) := by decide +kernel
theorem dJ0_coder_7d493_13 : decode cJ0_coder_7d493 13 = .ok (.iconst 1, 1) := by decide +kernel
theorem dJ0_coder_7d493_14 : decode cJ0_coder_7d493 14 = .ok (.ireturn, 1) := by decide +kernel
theorem dJ0_isLatin1_aae02_0 : decode cJ0_isLatin1_aae02 0 = .ok (.getstatic 38, 3) := by decide +kernel
theorem dJ0_isLatin1_aae02_3 : decode cJ0_isLatin1_aae02 3 = .ok (.ifCond .eq 14, 3) := by decide +kernel
theorem dJ0_isLatin1_aae02_6 : decode cJ0_isLatin1_aae02 6 = .ok (.aload_n 0, 1) := by decide +kernel
theorem dJ0_isLatin1_aae02_7 : decode cJ0_isLatin1_aae02 7 = .ok (.getfield 15, 3) := by decide +kernel
theorem dJ0_isLatin1_aae02_10 : decode cJ0_isLatin1_aae02 10 = .ok (.ifCond .ne 7, 3) := by decide +kernel
theorem dJ0_isLatin1_aae02_13 : decode cJ0_isLatin1_aae02 13 = .ok (.iconst 1, 1) := by decide +kernel
theorem dJ0_isLatin1_aae02_14 : decode cJ0_isLatin1_aae02 14 = .ok (.goto 4, 3) := by decide +kernel
theorem dJ0_isLatin1_aae02_17 : decode cJ0_isLatin1_aae02 17 = .ok (.iconst 0, 1) := by decide +kernel
theorem dJ0_isLatin1_aae02_18 : decode cJ0_isLatin1_aae02 18 = .ok (.ireturn, 1) := by decide +kernel
theorem dJ0_checkIndex_df160_0 : decode cJ0_checkIndex_df160 0 = .ok (.iload_n 0, 1) := by decide +kernel
theorem dJ0_checkIndex_df160_1 : decode cJ0_checkIndex_df160 1 = .ok (.iload_n 1, 1) := by decide +kernel
theorem dJ0_checkIndex_df160_2 : decode cJ0_checkIndex_df160 2 = .ok (.getstatic 1053, 3) := by decide +kernel
theorem dJ0_checkIndex_df160_5 : decode cJ0_checkIndex_df160 5 = .ok (.invokestatic 1059, 3) := by decide +kernel
theorem dJ0_checkIndex_df160_8 : decode cJ0_checkIndex_df160 8 = .ok (.pop, 1) := by decide +kernel
theorem dJ0_checkIndex_df160_9 : decode cJ0_checkIndex_df160 9 = .ok (.return_, 1) := by decide +kernel
theorem dJ1_charAt_3b067_0 : decode cJ1_charAt_3b067 0 = .ok (.iload_n 1, 1) := by decide +kernel
theorem dJ1_charAt_3b067_1 : decode cJ1_charAt_3b067 1 = .ok (.aload_n 0, 1) := by decide +kernel
theorem dJ1_charAt_3b067_2 : decode cJ1_charAt_3b067 2 = .ok (.arraylength, 1) := by decide +kernel
theorem dJ1_charAt_3b067_3 : decode cJ1_charAt_3b067 3 = .ok (.invokestatic 9, 3) := by decide +kernel
theorem dJ1_charAt_3b067_6 : decode cJ1_charAt_3b067 6 = .ok (.aload_n 0, 1) := by decide +kernel
theorem dJ1_charAt_3b067_7 : decode cJ1_charAt_3b067 7 = .ok (.iload_n 1, 1) := by decide +kernel
theorem dJ1_charAt_3b067_8 : decode cJ1_charAt_3b067 8 = .ok (.baload, 1) := by decide +kernel
theorem dJ1_charAt_3b067_9 : decode cJ1_charAt_3b067 9 = .ok (.sipush 255, 3) := by decide +kernel
theorem dJ1_charAt_3b067_12 : decode cJ1_charAt_3b067 12 = .ok (.iand, 1) := by decide +kernel
theorem dJ1_charAt_3b067_13 : decode cJ1_charAt_3b067 13 = .ok (.i2c, 1) := by decide +kernel
theorem dJ1_charAt_3b067_14 : decode cJ1_charAt_3b067 14 = .ok (.ireturn, 1) := by decide +kernel
theorem dJ2_getChar_3b067_0 : decode cJ2_getChar_3b067 0 = .ok (.getstatic 44, 3) := by decide +kernel
theorem dJ2_getChar_3b067_3 : decode cJ2_getChar_3b067 3 = .ok (.ifCond .ne 25, 3) := by decide +kernel
theorem dJ2_getChar_3b067_6 : decode cJ2_getChar_3b067 6 = .ok (.iload_n 1, 1) := by decide +kernel
theorem dJ2_getChar_3b067_7 : decode cJ2_getChar_3b067 7 = .ok (.ifCond .lt 11, 3) := by decide +kernel
theorem dJ2_getChar_3b067_10 : decode cJ2_getChar_3b067 10 = .ok (.iload_n 1, 1) := by decide +kernel
theorem dJ2_getChar_3b067_11 : decode cJ2_getChar_3b067 11 = .ok (.aload_n 0, 1) := by decide +kernel
theorem dJ2_getChar_3b067_12 : decode cJ2_getChar_3b067 12 = .ok (.invokestatic 48, 3) := by decide +kernel
theorem dJ2_getChar_3b067_15 : decode cJ2_getChar_3b067 15 = .ok (.if_icmp .lt 13, 3) := by decide +kernel
theorem dJ2_getChar_3b067_18 : decode cJ2_getChar_3b067 18 = .ok (.new 52, 3) := by decide +kernel
theorem dJ2_getChar_3b067_21 : decode cJ2_getChar_3b067 21 = .ok (.dup, 1) := by decide +kernel
theorem dJ2_getChar_3b067_22 : decode cJ2_getChar_3b067 22 = .ok (.ldc 54, 2) := by decide +kernel
theorem dJ2_getChar_3b067_24 : decode cJ2_getChar_3b067 24 = .ok (.invokespecial 56, 3) := by decide +kernel
theorem dJ2_getChar_3b067_27 : decode cJ2_getChar_3b067 27 = .ok (.athrow, 1) := by decide +kernel
theorem dJ2_getChar_3b067_28 : decode cJ2_getChar_3b067 28 = .ok (.iload_n 1, 1) := by decide +kernel
theorem dJ2_getChar_3b067_29 : decode cJ2_getChar_3b067 29 = .ok (.iconst 1, 1) := by decide +kernel
theorem dJ2_getChar_3b067_30 : decode cJ2_getChar_3b067 30 = .ok (.ishl, 1) := by decide +kernel
theorem dJ2_getChar_3b067_31 : decode cJ2_getChar_3b067 31 = .ok (.istore_n 1, 1) := by decide +kernel
theorem dJ2_getChar_3b067_32 : decode cJ2_getChar_3b067 32 = .ok (.aload_n 0, 1) := by decide +kernel
theorem dJ2_getChar_3b067_33 : decode cJ2_getChar_3b067 33 = .ok (.iload_n 1, 1) := by decide +kernel
theorem dJ2_getChar_3b067_34 : decode cJ2_getChar_3b067 34 = .ok (.iinc 1 1, 3) := by decide +kernel
theorem dJ2_getChar_3b067_37 : decode cJ2_getChar_3b067 37 = .ok (.baload, 1) := by decide +kernel
theorem dJ2_getChar_3b067_38 : decode cJ2_getChar_3b067 38 = .ok (.sipush 255, 3) := by decide +kernel
theorem dJ2_getChar_3b067_41 : decode cJ2_getChar_3b067 41 = .ok (.iand, 1) := by decide +kernel
theorem dJ2_getChar_3b067_42 : decode cJ2_getChar_3b067 42 = .ok (.getstatic 59, 3) := by decide +kernel
theorem dJ2_getChar_3b067_45 : decode cJ2_getChar_3b067 45 = .ok (.ishl, 1) := by decide +kernel
theorem dJ2_getChar_3b067_46 : decode cJ2_getChar_3b067 46 = .ok (.aload_n 0, 1) := by decide +kernel
theorem dJ2_getChar_3b067_47 : decode cJ2_getChar_3b067 47 = .ok (.iload_n 1, 1) := by decide +kernel
theorem dJ2_getChar_3b067_48 : decode cJ2_getChar_3b067 48 = .ok (.baload, 1) := by decide +kernel
theorem dJ2_getChar_3b067_49 : decode cJ2_getChar_3b067 49 = .ok (.sipush 255, 3) := by decide +kernel
theorem dJ2_getChar_3b067_52 : decode cJ2_getChar_3b067 52 = .ok (.iand, 1) := by decide +kernel
theorem dJ2_getChar_3b067_53 : decode cJ2_getChar_3b067 53 = .ok (.getstatic 63, 3) := by decide +kernel
theorem dJ2_getChar_3b067_56 : decode cJ2_getChar_3b067 56 = .ok (.ishl, 1) := by decide +kernel
theorem dJ2_getChar_3b067_57 : decode cJ2_getChar_3b067 57 = .ok (.ior, 1) := by decide +kernel
theorem dJ2_getChar_3b067_58 : decode cJ2_getChar_3b067 58 = .ok (.i2c, 1) := by decide +kernel
theorem dJ2_getChar_3b067_59 : decode cJ2_getChar_3b067 59 = .ok (.ireturn, 1) := by decide +kernel
theorem dJ2_length_9d52b_0 : decode cJ2_length_9d52b 0 = .ok (.aload_n 0, 1) := by decide +kernel
theorem dJ2_length_9d52b_1 : decode cJ2_length_9d52b 1 = .ok (.arraylength, 1) := by decide +kernel
theorem dJ2_length_9d52b_2 : decode cJ2_length_9d52b 2 = .ok (.iconst 1, 1) := by decide +kernel
theorem dJ2_length_9d52b_3 : decode cJ2_length_9d52b 3 = .ok (.ishr, 1) := by decide +kernel
theorem dJ2_length_9d52b_4 : decode cJ2_length_9d52b 4 = .ok (.ireturn, 1) := by decide +kernel
theorem dJ2_charAt_3b067_0 : decode cJ2_charAt_3b067 0 = .ok (.iload_n 1, 1) := by decide +kernel
theorem dJ2_charAt_3b067_1 : decode cJ2_charAt_3b067 1 = .ok (.aload_n 0, 1) := by decide +kernel
theorem dJ2_charAt_3b067_2 : decode cJ2_charAt_3b067 2 = .ok (.invokestatic 67, 3) := by decide +kernel
theorem dJ2_charAt_3b067_5 : decode cJ2_charAt_3b067 5 = .ok (.aload_n 0, 1) := by decide +kernel
theorem dJ2_charAt_3b067_6 : decode cJ2_charAt_3b067 6 = .ok (.iload_n 1, 1) := by decide +kernel
theorem dJ2_charAt_3b067_7 : decode cJ2_charAt_3b067 7 = .ok (.invokestatic 71, 3) := by decide +kernel
theorem dJ2_charAt_3b067_10 : decode cJ2_charAt_3b067 10 = .ok (.ireturn, 1) := by decide +kernel
theorem dJ2_checkIndex_2214a_0 : decode cJ2_checkIndex_2214a 0 = .ok (.iload_n 0, 1) := by decide +kernel
theorem dJ2_checkIndex_2214a_1 : decode cJ2_checkIndex_2214a 1 = .ok (.aload_n 1, 1) := by decide +kernel
theorem dJ2_checkIndex_2214a_2 : decode cJ2_checkIndex_2214a 2 = .ok (.invokestatic 48, 3) := by decide +kernel
theorem dJ2_checkIndex_2214a_5 : decode cJ2_checkIndex_2214a 5 = .ok (.invokestatic 414, 3) := by decide +kernel
theorem dJ2_checkIndex_2214a_8 : decode cJ2_checkIndex_2214a 8 = .ok (.return_, 1) := by decide +kernel
theorem dJ3_checkIndex_8e157_0 : decode cJ3_checkIndex_8e157 0 = .ok (.iload_n 0, 1) := by decide +kernel
theorem dJ3_checkIndex_8e157_1 : decode cJ3_checkIndex_8e157 1 = .ok (.ifCond .lt 8, 3) := by decide +kernel
theorem dJ3_checkIndex_8e157_4 : decode cJ3_checkIndex_8e157 4 = .ok (.iload_n 0, 1) := by decide +kernel
theorem dJ3_checkIndex_8e157_5 : decode cJ3_checkIndex_8e157 5 = .ok (.iload_n 1, 1) := by decide +kernel
theorem dJ3_checkIndex_8e157_6 : decode cJ3_checkIndex_8e157 6 = .ok (.if_icmp .lt 10, 3) := by decide +kernel
theorem dJ3_checkIndex_8e157_9 : decode cJ3_checkIndex_8e157 9 = .ok (.aload_n 2, 1) := by decide +kernel
theorem dJ3_checkIndex_8e157_10 : decode cJ3_checkIndex_8e157 10 = .ok (.iload_n 0, 1) := by decide +kernel
theorem dJ3_checkIndex_8e157_11 : decode cJ3_checkIndex_8e157 11 = .ok (.iload_n 1, 1) := by decide +kernel
theorem dJ3_checkIndex_8e157_12 : decode cJ3_checkIndex_8e157 12 = .ok (.invokestatic 95, 3) := by decide +kernel
theorem dJ3_checkIndex_8e157_15 : decode cJ3_checkIndex_8e157 15 = .ok (.athrow, 1) := by decide +kernel
theorem dJ3_checkIndex_8e157_16 : decode cJ3_checkIndex_8e157 16 = .ok (.iload_n 0, 1) := by decide +kernel
theorem dJ3_checkIndex_8e157_17 : decode cJ3_checkIndex_8e157 17 = .ok (.ireturn, 1) := by decide +kernel
theorem dL_house_0 : decode cL_house 0 = .ok (.aload_n 1, 1) := by decide +kernel
theorem dL_house_1 : decode cL_house 1 = .ok (.iconst 0, 1) := by decide +kernel
theorem dL_house_2 : decode cL_house 2 = .ok (.aload_n 0, 1) := by decide +kernel
theorem dL_house_3 : decode cL_house 3 = .ok (.invokevirtual 7, 3) := by decide +kernel
theorem dL_house_6 : decode cL_house 6 = .ok (.i2l, 1) := by decide +kernel
theorem dL_house_7 : decode cL_house 7 = .ok (.lastore, 1) := by decide +kernel
theorem dL_house_8 : decode cL_house 8 = .ok (.goto 9, 3) := by decide +kernel
theorem dL_house_11 : decode cL_house 11 = .ok (.astore_n 2, 1) := by decide +kernel
theorem dL_house_12 : decode cL_house 12 = .ok (.iconst 1, 1) := by decide +kernel
theorem dL_house_13 : decode cL_house 13 = .ok (.ireturn, 1) := by decide +kernel
theorem dL_house_14 : decode cL_house 14 = .ok (.astore_n 2, 1) := by decide +kernel
theorem dL_house_15 : decode cL_house 15 = .ok (.iconst 2, 1) := by decide +kernel
theorem dL_house_16 : decode cL_house 16 = .ok (.ireturn, 1) := by decide +kernel
theorem dL_house_17 : decode cL_house 17 = .ok (.iconst 0, 1) := by decide +kernel
theorem dL_house_18 : decode cL_house 18 = .ok (.ireturn, 1) := by decide +kernel
theorem dL_law_0 : decode cL_law 0 = .ok (.aload_n 1, 1) := by decide +kernel
theorem dL_law_1 : decode cL_law 1 = .ok (.iconst 0, 1) := by decide +kernel
theorem dL_law_2 : decode cL_law 2 = .ok (.aload_n 0, 1) := by decide +kernel
theorem dL_law_3 : decode cL_law 3 = .ok (.invokevirtual 17, 3) := by decide +kernel
theorem dL_law_6 : decode cL_law 6 = .ok (.i2l, 1) := by decide +kernel
theorem dL_law_7 : decode cL_law 7 = .ok (.lastore, 1) := by decide +kernel
theorem dL_law_8 : decode cL_law 8 = .ok (.goto 6, 3) := by decide +kernel
theorem dL_law_11 : decode cL_law 11 = .ok (.astore_n 2, 1) := by decide +kernel
theorem dL_law_12 : decode cL_law 12 = .ok (.iconst 1, 1) := by decide +kernel
theorem dL_law_13 : decode cL_law 13 = .ok (.ireturn, 1) := by decide +kernel
theorem dL_law_14 : decode cL_law 14 = .ok (.iconst 0, 1) := by decide +kernel
theorem dL_law_15 : decode cL_law 15 = .ok (.ireturn, 1) := by decide +kernel
theorem dL_part_0 : decode cL_part 0 = .ok (.aload_n 3, 1) := by decide +kernel
theorem dL_part_1 : decode cL_part 1 = .ok (.iconst 0, 1) := by decide +kernel
theorem dL_part_2 : decode cL_part 2 = .ok (.aload_n 0, 1) := by decide +kernel
theorem dL_part_3 : decode cL_part 3 = .ok (.iload_n 1, 1) := by decide +kernel
theorem dL_part_4 : decode cL_part 4 = .ok (.iload_n 2, 1) := by decide +kernel
theorem dL_part_5 : decode cL_part 5 = .ok (.invokevirtual 20, 3) := by decide +kernel
theorem dL_part_8 : decode cL_part 8 = .ok (.i2l, 1) := by decide +kernel
theorem dL_part_9 : decode cL_part 9 = .ok (.lastore, 1) := by decide +kernel
theorem dL_part_10 : decode cL_part 10 = .ok (.goto 11, 3) := by decide +kernel
theorem dL_part_13 : decode cL_part 13 = .ok (.astore 4, 2) := by decide +kernel
theorem dL_part_15 : decode cL_part 15 = .ok (.iconst 1, 1) := by decide +kernel
theorem dL_part_16 : decode cL_part 16 = .ok (.ireturn, 1) := by decide +kernel
theorem dL_part_17 : decode cL_part 17 = .ok (.astore 4, 2) := by decide +kernel
theorem dL_part_19 : decode cL_part 19 = .ok (.iconst 2, 1) := by decide +kernel
theorem dL_part_20 : decode cL_part 20 = .ok (.ireturn, 1) := by decide +kernel
theorem dL_part_21 : decode cL_part 21 = .ok (.iconst 0, 1) := by decide +kernel
theorem dL_part_22 : decode cL_part 22 = .ok (.ireturn, 1) := by decide +kernel
theorem dL_soap_0 : decode cL_soap 0 = .ok (.aload_n 3, 1) := by decide +kernel
theorem dL_soap_1 : decode cL_soap 1 = .ok (.iconst 0, 1) := by decide +kernel
theorem dL_soap_2 : decode cL_soap 2 = .ok (.aload_n 0, 1) := by decide +kernel
theorem dL_soap_3 : decode cL_soap 3 = .ok (.iload_n 1, 1) := by decide +kernel
theorem dL_soap_4 : decode cL_soap 4 = .ok (.iload_n 2, 1) := by decide +kernel
theorem dL_soap_5 : decode cL_soap 5 = .ok (.invokevirtual 28, 3) := by decide +kernel
theorem dL_soap_8 : decode cL_soap 8 = .ok (.i2l, 1) := by decide +kernel
theorem dL_soap_9 : decode cL_soap 9 = .ok (.lastore, 1) := by decide +kernel
theorem dL_soap_10 : decode cL_soap 10 = .ok (.goto 11, 3) := by decide +kernel
theorem dL_soap_13 : decode cL_soap 13 = .ok (.astore 4, 2) := by decide +kernel
theorem dL_soap_15 : decode cL_soap 15 = .ok (.iconst 1, 1) := by decide +kernel
theorem dL_soap_16 : decode cL_soap 16 = .ok (.ireturn, 1) := by decide +kernel
theorem dL_soap_17 : decode cL_soap 17 = .ok (.astore 4, 2) := by decide +kernel
theorem dL_soap_19 : decode cL_soap 19 = .ok (.iconst 2, 1) := by decide +kernel
theorem dL_soap_20 : decode cL_soap 20 = .ok (.ireturn, 1) := by decide +kernel
theorem dL_soap_21 : decode cL_soap 21 = .ok (.iconst 0, 1) := by decide +kernel
theorem dL_soap_22 : decode cL_soap 22 = .ok (.ireturn, 1) := by decide +kernel
theorem dL_peg_0 : decode cL_peg 0 = .ok (.aload_n 3, 1) := by decide +kernel
theorem dL_peg_1 : decode cL_peg 1 = .ok (.iconst 0, 1) := by decide +kernel
theorem dL_peg_2 : decode cL_peg 2 = .ok (.aload_n 0, 1) := by decide +kernel
theorem dL_peg_3 : decode cL_peg 3 = .ok (.iload_n 1, 1) := by decide +kernel
theorem dL_peg_4 : decode cL_peg 4 = .ok (.iload_n 2, 1) := by decide +kernel
theorem dL_peg_5 : decode cL_peg 5 = .ok (.invokevirtual 31, 3) := by decide +kernel
theorem dL_peg_8 : decode cL_peg 8 = .ok (.i2l, 1) := by decide +kernel
theorem dL_peg_9 : decode cL_peg 9 = .ok (.lastore, 1) := by decide +kernel
theorem dL_peg_10 : decode cL_peg 10 = .ok (.goto 7, 3) := by decide +kernel
theorem dL_peg_13 : decode cL_peg 13 = .ok (.astore 4, 2) := by decide +kernel
theorem dL_peg_15 : decode cL_peg 15 = .ok (.iconst 1, 1) := by decide +kernel
theorem dL_peg_16 : decode cL_peg 16 = .ok (.ireturn, 1) := by decide +kernel
theorem dL_peg_17 : decode cL_peg 17 = .ok (.iconst 0, 1) := by decide +kernel
theorem dL_peg_18 : decode cL_peg 18 = .ok (.ireturn, 1) := by decide +kernel
theorem dL_due_0 : decode cL_due 0 = .ok (.aload_n 3, 1) := by decide +kernel
theorem dL_due_1 : decode cL_due 1 = .ok (.iconst 0, 1) := by decide +kernel
theorem dL_due_2 : decode cL_due 2 = .ok (.aload_n 0, 1) := by decide +kernel
theorem dL_due_3 : decode cL_due 3 = .ok (.iload_n 1, 1) := by decide +kernel
theorem dL_due_4 : decode cL_due 4 = .ok (.iload_n 2, 1) := by decide +kernel
theorem dL_due_5 : decode cL_due 5 = .ok (.invokevirtual 35, 3) := by decide +kernel
theorem dL_due_8 : decode cL_due 8 = .ok (.i2l, 1) := by decide +kernel
theorem dL_due_9 : decode cL_due 9 = .ok (.lastore, 1) := by decide +kernel
theorem dL_due_10 : decode cL_due 10 = .ok (.goto 7, 3) := by decide +kernel
theorem dL_due_13 : decode cL_due 13 = .ok (.astore 4, 2) := by decide +kernel
theorem dL_due_15 : decode cL_due 15 = .ok (.iconst 1, 1) := by decide +kernel
theorem dL_due_16 : decode cL_due 16 = .ok (.ireturn, 1) := by decide +kernel
theorem dL_due_17 : decode cL_due 17 = .ok (.iconst 0, 1) := by decide +kernel
theorem dL_due_18 : decode cL_due 18 = .ok (.ireturn, 1) := by decide +kernel
theorem dL_wash_0 : decode cL_wash 0 = .ok (.aload_n 3, 1) := by decide +kernel
theorem dL_wash_1 : decode cL_wash 1 = .ok (.iconst 0, 1) := by decide +kernel
theorem dL_wash_2 : decode cL_wash 2 = .ok (.aload_n 0, 1) := by decide +kernel
theorem dL_wash_3 : decode cL_wash 3 = .ok (.iload_n 1, 1) := by decide +kernel
theorem dL_wash_4 : decode cL_wash 4 = .ok (.iload_n 2, 1) := by decide +kernel
theorem dL_wash_5 : decode cL_wash 5 = .ok (.invokevirtual 38, 3) := by decide +kernel
theorem dL_wash_8 : decode cL_wash 8 = .ok (.i2l, 1) := by decide +kernel
theorem dL_wash_9 : decode cL_wash 9 = .ok (.lastore, 1) := by decide +kernel
theorem dL_wash_10 : decode cL_wash 10 = .ok (.goto 11, 3) := by decide +kernel
theorem dL_wash_13 : decode cL_wash 13 = .ok (.astore 4, 2) := by decide +kernel
theorem dL_wash_15 : decode cL_wash 15 = .ok (.iconst 1, 1) := by decide +kernel
theorem dL_wash_16 : decode cL_wash 16 = .ok (.ireturn, 1) := by decide +kernel
theorem dL_wash_17 : decode cL_wash 17 = .ok (.astore 4, 2) := by decide +kernel
theorem dL_wash_19 : decode cL_wash 19 = .ok (.iconst 2, 1) := by decide +kernel
theorem dL_wash_20 : decode cL_wash 20 = .ok (.ireturn, 1) := by decide +kernel
theorem dL_wash_21 : decode cL_wash 21 = .ok (.iconst 0, 1) := by decide +kernel
theorem dL_wash_22 : decode cL_wash 22 = .ok (.ireturn, 1) := by decide +kernel
theorem dL_hang_0 : decode cL_hang 0 = .ok (.aload_n 3, 1) := by decide +kernel
theorem dL_hang_1 : decode cL_hang 1 = .ok (.iconst 0, 1) := by decide +kernel
theorem dL_hang_2 : decode cL_hang 2 = .ok (.aload_n 0, 1) := by decide +kernel
theorem dL_hang_3 : decode cL_hang 3 = .ok (.iload_n 1, 1) := by decide +kernel
theorem dL_hang_4 : decode cL_hang 4 = .ok (.iload_n 2, 1) := by decide +kernel
theorem dL_hang_5 : decode cL_hang 5 = .ok (.invokevirtual 43, 3) := by decide +kernel
theorem dL_hang_8 : decode cL_hang 8 = .ok (.ifCond .eq 7, 3) := by decide +kernel
theorem dL_hang_11 : decode cL_hang 11 = .ok (.lconst 1, 1) := by decide +kernel
theorem dL_hang_12 : decode cL_hang 12 = .ok (.goto 4, 3) := by decide +kernel
theorem dL_hang_15 : decode cL_hang 15 = .ok (.lconst 0, 1) := by decide +kernel
theorem dL_hang_16 : decode cL_hang 16 = .ok (.lastore, 1) := by decide +kernel
theorem dL_hang_17 : decode cL_hang 17 = .ok (.goto 7, 3) := by decide +kernel
theorem dL_hang_20 : decode cL_hang 20 = .ok (.astore 4, 2) := by decide +kernel
theorem dL_hang_22 : decode cL_hang 22 = .ok (.iconst 1, 1) := by decide +kernel
theorem dL_hang_23 : decode cL_hang 23 = .ok (.ireturn, 1) := by decide +kernel
theorem dL_hang_24 : decode cL_hang 24 = .ok (.iconst 0, 1) := by decide +kernel
theorem dL_hang_25 : decode cL_hang 25 = .ok (.ireturn, 1) := by decide +kernel
theorem dL_darn_0 : decode cL_darn 0 = .ok (.aload_n 2, 1) := by decide +kernel
theorem dL_darn_1 : decode cL_darn 1 = .ok (.iconst 0, 1) := by decide +kernel
theorem dL_darn_2 : decode cL_darn 2 = .ok (.aload_n 0, 1) := by decide +kernel
theorem dL_darn_3 : decode cL_darn 3 = .ok (.iload_n 1, 1) := by decide +kernel
theorem dL_darn_4 : decode cL_darn 4 = .ok (.invokevirtual 47, 3) := by decide +kernel
theorem dL_darn_7 : decode cL_darn 7 = .ok (.i2l, 1) := by decide +kernel
theorem dL_darn_8 : decode cL_darn 8 = .ok (.lastore, 1) := by decide +kernel
theorem dL_darn_9 : decode cL_darn 9 = .ok (.goto 9, 3) := by decide +kernel
theorem dL_darn_12 : decode cL_darn 12 = .ok (.astore_n 3, 1) := by decide +kernel
theorem dL_darn_13 : decode cL_darn 13 = .ok (.iconst 1, 1) := by decide +kernel
theorem dL_darn_14 : decode cL_darn 14 = .ok (.ireturn, 1) := by decide +kernel
theorem dL_darn_15 : decode cL_darn 15 = .ok (.astore_n 3, 1) := by decide +kernel
theorem dL_darn_16 : decode cL_darn 16 = .ok (.iconst 2, 1) := by decide +kernel
theorem dL_darn_17 : decode cL_darn 17 = .ok (.ireturn, 1) := by decide +kernel
theorem dL_darn_18 : decode cL_darn 18 = .ok (.iconst 0, 1) := by decide +kernel
theorem dL_darn_19 : decode cL_darn 19 = .ok (.ireturn, 1) := by decide +kernel
theorem dL_move_0 : decode cL_move 0 = .ok (.aload_n 3, 1) := by decide +kernel
theorem dL_move_1 : decode cL_move 1 = .ok (.iconst 0, 1) := by decide +kernel
theorem dL_move_2 : decode cL_move 2 = .ok (.aload_n 0, 1) := by decide +kernel
theorem dL_move_3 : decode cL_move 3 = .ok (.iload_n 1, 1) := by decide +kernel
theorem dL_move_4 : decode cL_move 4 = .ok (.iload_n 2, 1) := by decide +kernel
theorem dL_move_5 : decode cL_move 5 = .ok (.invokevirtual 51, 3) := by decide +kernel
theorem dL_move_8 : decode cL_move 8 = .ok (.i2l, 1) := by decide +kernel
theorem dL_move_9 : decode cL_move 9 = .ok (.lastore, 1) := by decide +kernel
theorem dL_move_10 : decode cL_move 10 = .ok (.goto 7, 3) := by decide +kernel
theorem dL_move_13 : decode cL_move 13 = .ok (.astore 4, 2) := by decide +kernel
theorem dL_move_15 : decode cL_move 15 = .ok (.iconst 1, 1) := by decide +kernel
theorem dL_move_16 : decode cL_move 16 = .ok (.ireturn, 1) := by decide +kernel
theorem dL_move_17 : decode cL_move 17 = .ok (.iconst 0, 1) := by decide +kernel
theorem dL_move_18 : decode cL_move 18 = .ok (.ireturn, 1) := by decide +kernel
theorem dL_drop_0 : decode cL_drop 0 = .ok (.aload_n 2, 1) := by decide +kernel
theorem dL_drop_1 : decode cL_drop 1 = .ok (.iconst 0, 1) := by decide +kernel
theorem dL_drop_2 : decode cL_drop 2 = .ok (.aload_n 0, 1) := by decide +kernel
theorem dL_drop_3 : decode cL_drop 3 = .ok (.iload_n 1, 1) := by decide +kernel
theorem dL_drop_4 : decode cL_drop 4 = .ok (.invokevirtual 54, 3) := by decide +kernel
theorem dL_drop_7 : decode cL_drop 7 = .ok (.i2l, 1) := by decide +kernel
theorem dL_drop_8 : decode cL_drop 8 = .ok (.lastore, 1) := by decide +kernel
theorem dL_drop_9 : decode cL_drop 9 = .ok (.goto 6, 3) := by decide +kernel
theorem dL_drop_12 : decode cL_drop 12 = .ok (.astore_n 3, 1) := by decide +kernel
theorem dL_drop_13 : decode cL_drop 13 = .ok (.iconst 1, 1) := by decide +kernel
theorem dL_drop_14 : decode cL_drop 14 = .ok (.ireturn, 1) := by decide +kernel
theorem dL_drop_15 : decode cL_drop 15 = .ok (.iconst 0, 1) := by decide +kernel
theorem dL_drop_16 : decode cL_drop 16 = .ok (.ireturn, 1) := by decide +kernel
theorem dL_nights_0 : decode cL_nights 0 = .ok (.aload_n 2, 1) := by decide +kernel
theorem dL_nights_1 : decode cL_nights 1 = .ok (.iconst 0, 1) := by decide +kernel
theorem dL_nights_2 : decode cL_nights 2 = .ok (.aload_n 0, 1) := by decide +kernel
theorem dL_nights_3 : decode cL_nights 3 = .ok (.iload_n 1, 1) := by decide +kernel
theorem dL_nights_4 : decode cL_nights 4 = .ok (.invokevirtual 57, 3) := by decide +kernel
theorem dL_nights_7 : decode cL_nights 7 = .ok (.i2l, 1) := by decide +kernel
theorem dL_nights_8 : decode cL_nights 8 = .ok (.lastore, 1) := by decide +kernel
theorem dL_nights_9 : decode cL_nights 9 = .ok (.goto 6, 3) := by decide +kernel
theorem dL_nights_12 : decode cL_nights 12 = .ok (.astore_n 3, 1) := by decide +kernel
theorem dL_nights_13 : decode cL_nights 13 = .ok (.iconst 1, 1) := by decide +kernel
theorem dL_nights_14 : decode cL_nights 14 = .ok (.ireturn, 1) := by decide +kernel
theorem dL_nights_15 : decode cL_nights 15 = .ok (.iconst 0, 1) := by decide +kernel
theorem dL_nights_16 : decode cL_nights 16 = .ok (.ireturn, 1) := by decide +kernel
theorem dL_would_0 : decode cL_would 0 = .ok (.aload_n 3, 1) := by decide +kernel
theorem dL_would_1 : decode cL_would 1 = .ok (.iconst 0, 1) := by decide +kernel
theorem dL_would_2 : decode cL_would 2 = .ok (.aload_n 0, 1) := by decide +kernel
theorem dL_would_3 : decode cL_would 3 = .ok (.iload_n 1, 1) := by decide +kernel
theorem dL_would_4 : decode cL_would 4 = .ok (.iload_n 2, 1) := by decide +kernel
theorem dL_would_5 : decode cL_would 5 = .ok (.invokevirtual 60, 3) := by decide +kernel
theorem dL_would_8 : decode cL_would 8 = .ok (.i2l, 1) := by decide +kernel
theorem dL_would_9 : decode cL_would 9 = .ok (.lastore, 1) := by decide +kernel
theorem dL_would_10 : decode cL_would 10 = .ok (.goto 7, 3) := by decide +kernel
theorem dL_would_13 : decode cL_would 13 = .ok (.astore 4, 2) := by decide +kernel
theorem dL_would_15 : decode cL_would 15 = .ok (.iconst 1, 1) := by decide +kernel
theorem dL_would_16 : decode cL_would 16 = .ok (.ireturn, 1) := by decide +kernel
theorem dL_would_17 : decode cL_would 17 = .ok (.iconst 0, 1) := by decide +kernel
theorem dL_would_18 : decode cL_would 18 = .ok (.ireturn, 1) := by decide +kernel
theorem dL_best_0 : decode cL_best 0 = .ok (.aload_n 2, 1) := by decide +kernel
theorem dL_best_1 : decode cL_best 1 = .ok (.iconst 0, 1) := by decide +kernel
theorem dL_best_2 : decode cL_best 2 = .ok (.aload_n 0, 1) := by decide +kernel
theorem dL_best_3 : decode cL_best 3 = .ok (.iload_n 1, 1) := by decide +kernel
theorem dL_best_4 : decode cL_best 4 = .ok (.invokevirtual 63, 3) := by decide +kernel
theorem dL_best_7 : decode cL_best 7 = .ok (.i2l, 1) := by decide +kernel
theorem dL_best_8 : decode cL_best 8 = .ok (.lastore, 1) := by decide +kernel
theorem dL_best_9 : decode cL_best 9 = .ok (.goto 6, 3) := by decide +kernel
theorem dL_best_12 : decode cL_best 12 = .ok (.astore_n 3, 1) := by decide +kernel
theorem dL_best_13 : decode cL_best 13 = .ok (.iconst 1, 1) := by decide +kernel
theorem dL_best_14 : decode cL_best 14 = .ok (.ireturn, 1) := by decide +kernel
theorem dL_best_15 : decode cL_best 15 = .ok (.iconst 0, 1) := by decide +kernel
theorem dL_best_16 : decode cL_best 16 = .ok (.ireturn, 1) := by decide +kernel
theorem dL_least_0 : decode cL_least 0 = .ok (.aload_n 3, 1) := by decide +kernel
theorem dL_least_1 : decode cL_least 1 = .ok (.iconst 0, 1) := by decide +kernel
theorem dL_least_2 : decode cL_least 2 = .ok (.aload_n 0, 1) := by decide +kernel
theorem dL_least_3 : decode cL_least 3 = .ok (.iload_n 1, 1) := by decide +kernel
theorem dL_least_4 : decode cL_least 4 = .ok (.iload_n 2, 1) := by decide +kernel
theorem dL_least_5 : decode cL_least 5 = .ok (.invokevirtual 66, 3) := by decide +kernel
theorem dL_least_8 : decode cL_least 8 = .ok (.i2l, 1) := by decide +kernel
theorem dL_least_9 : decode cL_least 9 = .ok (.lastore, 1) := by decide +kernel
theorem dL_least_10 : decode cL_least 10 = .ok (.goto 11, 3) := by decide +kernel
theorem dL_least_13 : decode cL_least 13 = .ok (.astore 4, 2) := by decide +kernel
theorem dL_least_15 : decode cL_least 15 = .ok (.iconst 1, 1) := by decide +kernel
theorem dL_least_16 : decode cL_least 16 = .ok (.ireturn, 1) := by decide +kernel
theorem dL_least_17 : decode cL_least 17 = .ok (.astore 4, 2) := by decide +kernel
theorem dL_least_19 : decode cL_least 19 = .ok (.iconst 2, 1) := by decide +kernel
theorem dL_least_20 : decode cL_least 20 = .ok (.ireturn, 1) := by decide +kernel
theorem dL_least_21 : decode cL_least 21 = .ok (.iconst 0, 1) := by decide +kernel
theorem dL_least_22 : decode cL_least 22 = .ok (.ireturn, 1) := by decide +kernel
theorem dL_soaps_0 : decode cL_soaps 0 = .ok (.aload_n 2, 1) := by decide +kernel
theorem dL_soaps_1 : decode cL_soaps 1 = .ok (.iconst 0, 1) := by decide +kernel
theorem dL_soaps_2 : decode cL_soaps 2 = .ok (.aload_n 0, 1) := by decide +kernel
theorem dL_soaps_3 : decode cL_soaps 3 = .ok (.iload_n 1, 1) := by decide +kernel
theorem dL_soaps_4 : decode cL_soaps 4 = .ok (.invokevirtual 69, 3) := by decide +kernel
theorem dL_soaps_7 : decode cL_soaps 7 = .ok (.i2l, 1) := by decide +kernel
theorem dL_soaps_8 : decode cL_soaps 8 = .ok (.lastore, 1) := by decide +kernel
theorem dL_soaps_9 : decode cL_soaps 9 = .ok (.goto 6, 3) := by decide +kernel
theorem dL_soaps_12 : decode cL_soaps 12 = .ok (.astore_n 3, 1) := by decide +kernel
theorem dL_soaps_13 : decode cL_soaps 13 = .ok (.iconst 1, 1) := by decide +kernel
theorem dL_soaps_14 : decode cL_soaps 14 = .ok (.ireturn, 1) := by decide +kernel
theorem dL_soaps_15 : decode cL_soaps 15 = .ok (.iconst 0, 1) := by decide +kernel
theorem dL_soaps_16 : decode cL_soaps 16 = .ok (.ireturn, 1) := by decide +kernel
theorem dL_washes_0 : decode cL_washes 0 = .ok (.aload_n 3, 1) := by decide +kernel
theorem dL_washes_1 : decode cL_washes 1 = .ok (.iconst 0, 1) := by decide +kernel
theorem dL_washes_2 : decode cL_washes 2 = .ok (.aload_n 0, 1) := by decide +kernel
theorem dL_washes_3 : decode cL_washes 3 = .ok (.iload_n 1, 1) := by decide +kernel
theorem dL_washes_4 : decode cL_washes 4 = .ok (.iload_n 2, 1) := by decide +kernel
theorem dL_washes_5 : decode cL_washes 5 = .ok (.invokevirtual 72, 3) := by decide +kernel
theorem dL_washes_8 : decode cL_washes 8 = .ok (.i2l, 1) := by decide +kernel
theorem dL_washes_9 : decode cL_washes 9 = .ok (.lastore, 1) := by decide +kernel
theorem dL_washes_10 : decode cL_washes 10 = .ok (.goto 7, 3) := by decide +kernel
theorem dL_washes_13 : decode cL_washes 13 = .ok (.astore 4, 2) := by decide +kernel
theorem dL_washes_15 : decode cL_washes 15 = .ok (.iconst 1, 1) := by decide +kernel
theorem dL_washes_16 : decode cL_washes 16 = .ok (.ireturn, 1) := by decide +kernel
theorem dL_washes_17 : decode cL_washes 17 = .ok (.iconst 0, 1) := by decide +kernel
theorem dL_washes_18 : decode cL_washes 18 = .ok (.ireturn, 1) := by decide +kernel
theorem dL_soonest_0 : decode cL_soonest 0 = .ok (.aload_n 3, 1) := by decide +kernel
theorem dL_soonest_1 : decode cL_soonest 1 = .ok (.iconst 0, 1) := by decide +kernel
theorem dL_soonest_2 : decode cL_soonest 2 = .ok (.aload_n 0, 1) := by decide +kernel
theorem dL_soonest_3 : decode cL_soonest 3 = .ok (.iload_n 1, 1) := by decide +kernel
theorem dL_soonest_4 : decode cL_soonest 4 = .ok (.iload_n 2, 1) := by decide +kernel
theorem dL_soonest_5 : decode cL_soonest 5 = .ok (.invokevirtual 75, 3) := by decide +kernel
theorem dL_soonest_8 : decode cL_soonest 8 = .ok (.i2l, 1) := by decide +kernel
theorem dL_soonest_9 : decode cL_soonest 9 = .ok (.lastore, 1) := by decide +kernel
theorem dL_soonest_10 : decode cL_soonest 10 = .ok (.goto 11, 3) := by decide +kernel
theorem dL_soonest_13 : decode cL_soonest 13 = .ok (.astore 4, 2) := by decide +kernel
theorem dL_soonest_15 : decode cL_soonest 15 = .ok (.iconst 1, 1) := by decide +kernel
theorem dL_soonest_16 : decode cL_soonest 16 = .ok (.ireturn, 1) := by decide +kernel
theorem dL_soonest_17 : decode cL_soonest 17 = .ok (.astore 4, 2) := by decide +kernel
theorem dL_soonest_19 : decode cL_soonest 19 = .ok (.iconst 2, 1) := by decide +kernel
theorem dL_soonest_20 : decode cL_soonest 20 = .ok (.ireturn, 1) := by decide +kernel
theorem dL_soonest_21 : decode cL_soonest 21 = .ok (.iconst 0, 1) := by decide +kernel
theorem dL_soonest_22 : decode cL_soonest 22 = .ok (.ireturn, 1) := by decide +kernel
theorem dL_dried_0 : decode cL_dried 0 = .ok (.aload_n 3, 1) := by decide +kernel
theorem dL_dried_1 : decode cL_dried 1 = .ok (.iconst 0, 1) := by decide +kernel
theorem dL_dried_2 : decode cL_dried 2 = .ok (.aload_n 0, 1) := by decide +kernel
theorem dL_dried_3 : decode cL_dried 3 = .ok (.iload_n 1, 1) := by decide +kernel
theorem dL_dried_4 : decode cL_dried 4 = .ok (.iload_n 2, 1) := by decide +kernel
theorem dL_dried_5 : decode cL_dried 5 = .ok (.invokevirtual 78, 3) := by decide +kernel
theorem dL_dried_8 : decode cL_dried 8 = .ok (.i2l, 1) := by decide +kernel
theorem dL_dried_9 : decode cL_dried 9 = .ok (.lastore, 1) := by decide +kernel
theorem dL_dried_10 : decode cL_dried 10 = .ok (.goto 11, 3) := by decide +kernel
theorem dL_dried_13 : decode cL_dried 13 = .ok (.astore 4, 2) := by decide +kernel
theorem dL_dried_15 : decode cL_dried 15 = .ok (.iconst 1, 1) := by decide +kernel
theorem dL_dried_16 : decode cL_dried 16 = .ok (.ireturn, 1) := by decide +kernel
theorem dL_dried_17 : decode cL_dried 17 = .ok (.astore 4, 2) := by decide +kernel
theorem dL_dried_19 : decode cL_dried 19 = .ok (.iconst 2, 1) := by decide +kernel
theorem dL_dried_20 : decode cL_dried 20 = .ok (.ireturn, 1) := by decide +kernel
theorem dL_dried_21 : decode cL_dried 21 = .ok (.iconst 0, 1) := by decide +kernel
theorem dL_dried_22 : decode cL_dried 22 = .ok (.ireturn, 1) := by decide +kernel
theorem dL_ahead_0 : decode cL_ahead 0 = .ok (.aload 5, 2) := by decide +kernel
theorem dL_ahead_2 : decode cL_ahead 2 = .ok (.iconst 0, 1) := by decide +kernel
theorem dL_ahead_3 : decode cL_ahead 3 = .ok (.aload_n 0, 1) := by decide +kernel
theorem dL_ahead_4 : decode cL_ahead 4 = .ok (.iload_n 1, 1) := by decide +kernel
theorem dL_ahead_5 : decode cL_ahead 5 = .ok (.iload_n 2, 1) := by decide +kernel
theorem dL_ahead_6 : decode cL_ahead 6 = .ok (.iload_n 3, 1) := by decide +kernel
theorem dL_ahead_7 : decode cL_ahead 7 = .ok (.iload 4, 2) := by decide +kernel
theorem dL_ahead_9 : decode cL_ahead 9 = .ok (.invokevirtual 81, 3) := by decide +kernel
theorem dL_ahead_12 : decode cL_ahead 12 = .ok (.i2l, 1) := by decide +kernel
theorem dL_ahead_13 : decode cL_ahead 13 = .ok (.lastore, 1) := by decide +kernel
theorem dL_ahead_14 : decode cL_ahead 14 = .ok (.goto 15, 3) := by decide +kernel
theorem dL_ahead_17 : decode cL_ahead 17 = .ok (.astore 6, 2) := by decide +kernel
theorem dL_ahead_19 : decode cL_ahead 19 = .ok (.iconst 1, 1) := by decide +kernel
theorem dL_ahead_20 : decode cL_ahead 20 = .ok (.ireturn, 1) := by decide +kernel
theorem dL_ahead_21 : decode cL_ahead 21 = .ok (.astore 6, 2) := by decide +kernel
theorem dL_ahead_23 : decode cL_ahead 23 = .ok (.iconst 2, 1) := by decide +kernel
theorem dL_ahead_24 : decode cL_ahead 24 = .ok (.ireturn, 1) := by decide +kernel
theorem dL_ahead_25 : decode cL_ahead 25 = .ok (.astore 6, 2) := by decide +kernel
theorem dL_ahead_27 : decode cL_ahead 27 = .ok (.iconst 3, 1) := by decide +kernel
theorem dL_ahead_28 : decode cL_ahead 28 = .ok (.ireturn, 1) := by decide +kernel
theorem dL_ahead_29 : decode cL_ahead 29 = .ok (.iconst 0, 1) := by decide +kernel
theorem dL_ahead_30 : decode cL_ahead 30 = .ok (.ireturn, 1) := by decide +kernel
theorem dL_stained_0 : decode cL_stained 0 = .ok (.aload_n 2, 1) := by decide +kernel
theorem dL_stained_1 : decode cL_stained 1 = .ok (.iconst 0, 1) := by decide +kernel
theorem dL_stained_2 : decode cL_stained 2 = .ok (.aload_n 0, 1) := by decide +kernel
theorem dL_stained_3 : decode cL_stained 3 = .ok (.iload_n 1, 1) := by decide +kernel
theorem dL_stained_4 : decode cL_stained 4 = .ok (.invokevirtual 85, 3) := by decide +kernel
theorem dL_stained_7 : decode cL_stained 7 = .ok (.i2l, 1) := by decide +kernel
theorem dL_stained_8 : decode cL_stained 8 = .ok (.lastore, 1) := by decide +kernel
theorem dL_stained_9 : decode cL_stained 9 = .ok (.goto 6, 3) := by decide +kernel
theorem dL_stained_12 : decode cL_stained 12 = .ok (.astore_n 3, 1) := by decide +kernel
theorem dL_stained_13 : decode cL_stained 13 = .ok (.iconst 1, 1) := by decide +kernel
theorem dL_stained_14 : decode cL_stained 14 = .ok (.ireturn, 1) := by decide +kernel
theorem dL_stained_15 : decode cL_stained 15 = .ok (.iconst 0, 1) := by decide +kernel
theorem dL_stained_16 : decode cL_stained 16 = .ok (.ireturn, 1) := by decide +kernel
theorem dL_tries_0 : decode cL_tries 0 = .ok (.aload_n 1, 1) := by decide +kernel
theorem dL_tries_1 : decode cL_tries 1 = .ok (.iconst 0, 1) := by decide +kernel
theorem dL_tries_2 : decode cL_tries 2 = .ok (.aload_n 0, 1) := by decide +kernel
theorem dL_tries_3 : decode cL_tries 3 = .ok (.invokevirtual 89, 3) := by decide +kernel
theorem dL_tries_6 : decode cL_tries 6 = .ok (.i2l, 1) := by decide +kernel
theorem dL_tries_7 : decode cL_tries 7 = .ok (.lastore, 1) := by decide +kernel
theorem dL_tries_8 : decode cL_tries 8 = .ok (.goto 6, 3) := by decide +kernel
theorem dL_tries_11 : decode cL_tries 11 = .ok (.astore_n 2, 1) := by decide +kernel
theorem dL_tries_12 : decode cL_tries 12 = .ok (.iconst 1, 1) := by decide +kernel
theorem dL_tries_13 : decode cL_tries 13 = .ok (.ireturn, 1) := by decide +kernel
theorem dL_tries_14 : decode cL_tries 14 = .ok (.iconst 0, 1) := by decide +kernel
theorem dL_tries_15 : decode cL_tries 15 = .ok (.ireturn, 1) := by decide +kernel
theorem dL_tide_0 : decode cL_tide 0 = .ok (.aload_n 3, 1) := by decide +kernel
theorem dL_tide_1 : decode cL_tide 1 = .ok (.iconst 0, 1) := by decide +kernel
theorem dL_tide_2 : decode cL_tide 2 = .ok (.aload_n 0, 1) := by decide +kernel
theorem dL_tide_3 : decode cL_tide 3 = .ok (.iload_n 1, 1) := by decide +kernel
theorem dL_tide_4 : decode cL_tide 4 = .ok (.iload_n 2, 1) := by decide +kernel
theorem dL_tide_5 : decode cL_tide 5 = .ok (.invokevirtual 92, 3) := by decide +kernel
theorem dL_tide_8 : decode cL_tide 8 = .ok (.i2l, 1) := by decide +kernel
theorem dL_tide_9 : decode cL_tide 9 = .ok (.lastore, 1) := by decide +kernel
theorem dL_tide_10 : decode cL_tide 10 = .ok (.goto 7, 3) := by decide +kernel
theorem dL_tide_13 : decode cL_tide 13 = .ok (.astore 4, 2) := by decide +kernel
theorem dL_tide_15 : decode cL_tide 15 = .ok (.iconst 1, 1) := by decide +kernel
theorem dL_tide_16 : decode cL_tide 16 = .ok (.ireturn, 1) := by decide +kernel
theorem dL_tide_17 : decode cL_tide 17 = .ok (.iconst 0, 1) := by decide +kernel
theorem dL_tide_18 : decode cL_tide 18 = .ok (.ireturn, 1) := by decide +kernel
theorem dL_late_0 : decode cL_late 0 = .ok (.aload_n 2, 1) := by decide +kernel
theorem dL_late_1 : decode cL_late 1 = .ok (.iconst 0, 1) := by decide +kernel
theorem dL_late_2 : decode cL_late 2 = .ok (.aload_n 0, 1) := by decide +kernel
theorem dL_late_3 : decode cL_late 3 = .ok (.iload_n 1, 1) := by decide +kernel
theorem dL_late_4 : decode cL_late 4 = .ok (.invokevirtual 95, 3) := by decide +kernel
theorem dL_late_7 : decode cL_late 7 = .ok (.i2l, 1) := by decide +kernel
theorem dL_late_8 : decode cL_late 8 = .ok (.lastore, 1) := by decide +kernel
theorem dL_late_9 : decode cL_late 9 = .ok (.goto 6, 3) := by decide +kernel
theorem dL_late_12 : decode cL_late 12 = .ok (.astore_n 3, 1) := by decide +kernel
theorem dL_late_13 : decode cL_late 13 = .ok (.iconst 1, 1) := by decide +kernel
theorem dL_late_14 : decode cL_late 14 = .ok (.ireturn, 1) := by decide +kernel
theorem dL_late_15 : decode cL_late 15 = .ok (.iconst 0, 1) := by decide +kernel
theorem dL_late_16 : decode cL_late 16 = .ok (.ireturn, 1) := by decide +kernel
theorem dL_enough_0 : decode cL_enough 0 = .ok (.aload_n 2, 1) := by decide +kernel
theorem dL_enough_1 : decode cL_enough 1 = .ok (.iconst 0, 1) := by decide +kernel
theorem dL_enough_2 : decode cL_enough 2 = .ok (.aload_n 0, 1) := by decide +kernel
theorem dL_enough_3 : decode cL_enough 3 = .ok (.iload_n 1, 1) := by decide +kernel
theorem dL_enough_4 : decode cL_enough 4 = .ok (.invokevirtual 98, 3) := by decide +kernel
theorem dL_enough_7 : decode cL_enough 7 = .ok (.i2l, 1) := by decide +kernel
theorem dL_enough_8 : decode cL_enough 8 = .ok (.lastore, 1) := by decide +kernel
theorem dL_enough_9 : decode cL_enough 9 = .ok (.goto 6, 3) := by decide +kernel
theorem dL_enough_12 : decode cL_enough 12 = .ok (.astore_n 3, 1) := by decide +kernel
theorem dL_enough_13 : decode cL_enough 13 = .ok (.iconst 1, 1) := by decide +kernel
theorem dL_enough_14 : decode cL_enough 14 = .ok (.ireturn, 1) := by decide +kernel
theorem dL_enough_15 : decode cL_enough 15 = .ok (.iconst 0, 1) := by decide +kernel
theorem dL_enough_16 : decode cL_enough 16 = .ok (.ireturn, 1) := by decide +kernel
theorem dL_wears_0 : decode cL_wears 0 = .ok (.aload_n 3, 1) := by decide +kernel
theorem dL_wears_1 : decode cL_wears 1 = .ok (.iconst 0, 1) := by decide +kernel
theorem dL_wears_2 : decode cL_wears 2 = .ok (.aload_n 0, 1) := by decide +kernel
theorem dL_wears_3 : decode cL_wears 3 = .ok (.iload_n 1, 1) := by decide +kernel
theorem dL_wears_4 : decode cL_wears 4 = .ok (.iload_n 2, 1) := by decide +kernel
theorem dL_wears_5 : decode cL_wears 5 = .ok (.invokevirtual 101, 3) := by decide +kernel
theorem dL_wears_8 : decode cL_wears 8 = .ok (.i2l, 1) := by decide +kernel
theorem dL_wears_9 : decode cL_wears 9 = .ok (.lastore, 1) := by decide +kernel
theorem dL_wears_10 : decode cL_wears 10 = .ok (.goto 7, 3) := by decide +kernel
theorem dL_wears_13 : decode cL_wears 13 = .ok (.astore 4, 2) := by decide +kernel
theorem dL_wears_15 : decode cL_wears 15 = .ok (.iconst 1, 1) := by decide +kernel
theorem dL_wears_16 : decode cL_wears 16 = .ok (.ireturn, 1) := by decide +kernel
theorem dL_wears_17 : decode cL_wears 17 = .ok (.iconst 0, 1) := by decide +kernel
theorem dL_wears_18 : decode cL_wears 18 = .ok (.ireturn, 1) := by decide +kernel
theorem dL_trial_0 : decode cL_trial 0 = .ok (.aload_n 3, 1) := by decide +kernel
theorem dL_trial_1 : decode cL_trial 1 = .ok (.iconst 0, 1) := by decide +kernel
theorem dL_trial_2 : decode cL_trial 2 = .ok (.aload_n 0, 1) := by decide +kernel
theorem dL_trial_3 : decode cL_trial 3 = .ok (.iload_n 1, 1) := by decide +kernel
theorem dL_trial_4 : decode cL_trial 4 = .ok (.iload_n 2, 1) := by decide +kernel
theorem dL_trial_5 : decode cL_trial 5 = .ok (.invokevirtual 104, 3) := by decide +kernel
theorem dL_trial_8 : decode cL_trial 8 = .ok (.i2l, 1) := by decide +kernel
theorem dL_trial_9 : decode cL_trial 9 = .ok (.lastore, 1) := by decide +kernel
theorem dL_trial_10 : decode cL_trial 10 = .ok (.goto 7, 3) := by decide +kernel
theorem dL_trial_13 : decode cL_trial 13 = .ok (.astore 4, 2) := by decide +kernel
theorem dL_trial_15 : decode cL_trial 15 = .ok (.iconst 1, 1) := by decide +kernel
theorem dL_trial_16 : decode cL_trial 16 = .ok (.ireturn, 1) := by decide +kernel
theorem dL_trial_17 : decode cL_trial 17 = .ok (.iconst 0, 1) := by decide +kernel
theorem dL_trial_18 : decode cL_trial 18 = .ok (.ireturn, 1) := by decide +kernel
theorem dL_span_0 : decode cL_span 0 = .ok (.aload_n 3, 1) := by decide +kernel
theorem dL_span_1 : decode cL_span 1 = .ok (.iconst 0, 1) := by decide +kernel
theorem dL_span_2 : decode cL_span 2 = .ok (.aload_n 0, 1) := by decide +kernel
theorem dL_span_3 : decode cL_span 3 = .ok (.iload_n 1, 1) := by decide +kernel
theorem dL_span_4 : decode cL_span 4 = .ok (.iload_n 2, 1) := by decide +kernel
theorem dL_span_5 : decode cL_span 5 = .ok (.invokevirtual 107, 3) := by decide +kernel
theorem dL_span_8 : decode cL_span 8 = .ok (.i2l, 1) := by decide +kernel
theorem dL_span_9 : decode cL_span 9 = .ok (.lastore, 1) := by decide +kernel
theorem dL_span_10 : decode cL_span 10 = .ok (.goto 7, 3) := by decide +kernel
theorem dL_span_13 : decode cL_span 13 = .ok (.astore 4, 2) := by decide +kernel
theorem dL_span_15 : decode cL_span 15 = .ok (.iconst 1, 1) := by decide +kernel
theorem dL_span_16 : decode cL_span 16 = .ok (.ireturn, 1) := by decide +kernel
theorem dL_span_17 : decode cL_span 17 = .ok (.iconst 0, 1) := by decide +kernel
theorem dL_span_18 : decode cL_span 18 = .ok (.ireturn, 1) := by decide +kernel
theorem dL_led_0 : decode cL_led 0 = .ok (.aload_n 3, 1) := by decide +kernel
theorem dL_led_1 : decode cL_led 1 = .ok (.iconst 0, 1) := by decide +kernel
theorem dL_led_2 : decode cL_led 2 = .ok (.aload_n 0, 1) := by decide +kernel
theorem dL_led_3 : decode cL_led 3 = .ok (.iload_n 1, 1) := by decide +kernel
theorem dL_led_4 : decode cL_led 4 = .ok (.iload_n 2, 1) := by decide +kernel
theorem dL_led_5 : decode cL_led 5 = .ok (.invokevirtual 110, 3) := by decide +kernel
theorem dL_led_8 : decode cL_led 8 = .ok (.i2l, 1) := by decide +kernel
theorem dL_led_9 : decode cL_led 9 = .ok (.lastore, 1) := by decide +kernel
theorem dL_led_10 : decode cL_led 10 = .ok (.goto 7, 3) := by decide +kernel
theorem dL_led_13 : decode cL_led 13 = .ok (.astore 4, 2) := by decide +kernel
theorem dL_led_15 : decode cL_led 15 = .ok (.iconst 1, 1) := by decide +kernel
theorem dL_led_16 : decode cL_led 16 = .ok (.ireturn, 1) := by decide +kernel
theorem dL_led_17 : decode cL_led 17 = .ok (.iconst 0, 1) := by decide +kernel
theorem dL_led_18 : decode cL_led 18 = .ok (.ireturn, 1) := by decide +kernel
theorem dL_log_0 : decode cL_log 0 = .ok (.aload_n 3, 1) := by decide +kernel
theorem dL_log_1 : decode cL_log 1 = .ok (.iconst 0, 1) := by decide +kernel
theorem dL_log_2 : decode cL_log 2 = .ok (.aload_n 0, 1) := by decide +kernel
theorem dL_log_3 : decode cL_log 3 = .ok (.iload_n 1, 1) := by decide +kernel
theorem dL_log_4 : decode cL_log 4 = .ok (.iload_n 2, 1) := by decide +kernel
theorem dL_log_5 : decode cL_log 5 = .ok (.invokevirtual 113, 3) := by decide +kernel
theorem dL_log_8 : decode cL_log 8 = .ok (.i2l, 1) := by decide +kernel
theorem dL_log_9 : decode cL_log 9 = .ok (.lastore, 1) := by decide +kernel
theorem dL_log_10 : decode cL_log 10 = .ok (.goto 7, 3) := by decide +kernel
theorem dL_log_13 : decode cL_log 13 = .ok (.astore 4, 2) := by decide +kernel
theorem dL_log_15 : decode cL_log 15 = .ok (.iconst 1, 1) := by decide +kernel
theorem dL_log_16 : decode cL_log 16 = .ok (.ireturn, 1) := by decide +kernel
theorem dL_log_17 : decode cL_log 17 = .ok (.iconst 0, 1) := by decide +kernel
theorem dL_log_18 : decode cL_log 18 = .ok (.ireturn, 1) := by decide +kernel
theorem dL_law__0 : decode cL_law_ 0 = .ok (.new 8, 3) := by decide +kernel
theorem dL_law__3 : decode cL_law_ 3 = .ok (.dup, 1) := by decide +kernel
theorem dL_law__4 : decode cL_law_ 4 = .ok (.invokespecial 116, 3) := by decide +kernel
theorem dL_law__7 : decode cL_law_ 7 = .ok (.astore_n 1, 1) := by decide +kernel
theorem dL_law__8 : decode cL_law_ 8 = .ok (.new 117, 3) := by decide +kernel
theorem dL_law__11 : decode cL_law_ 11 = .ok (.dup, 1) := by decide +kernel
theorem dL_law__12 : decode cL_law_ 12 = .ok (.invokespecial 119, 3) := by decide +kernel
theorem dL_law__15 : decode cL_law_ 15 = .ok (.astore_n 2, 1) := by decide +kernel
theorem dL_law__16 : decode cL_law_ 16 = .ok (.iconst 1, 1) := by decide +kernel
theorem dL_law__17 : decode cL_law_ 17 = .ok (.newarray .long, 2) := by decide +kernel
theorem dL_law__19 : decode cL_law_ 19 = .ok (.astore_n 3, 1) := by decide +kernel
theorem dL_law__20 : decode cL_law_ 20 = .ok (.iconst 0, 1) := by decide +kernel
theorem dL_law__21 : decode cL_law_ 21 = .ok (.istore 4, 2) := by decide +kernel
theorem dL_law__23 : decode cL_law_ 23 = .ok (.iload 4, 2) := by decide +kernel
theorem dL_law__25 : decode cL_law_ 25 = .ok (.aload_n 0, 1) := by decide +kernel
theorem dL_law__26 : decode cL_law_ 26 = .ok (.arraylength, 1) := by decide +kernel
theorem dL_law__27 : decode cL_law_ 27 = .ok (.bipush 6, 2) := by decide +kernel
theorem dL_law__29 : decode cL_law_ 29 = .ok (.isub, 1) := by decide +kernel
theorem dL_law__30 : decode cL_law_ 30 = .ok (.if_icmp .gt 2516, 3) := by decide +kernel
theorem dL_law__33 : decode cL_law_ 33 = .ok (.aload_n 0, 1) := by decide +kernel
theorem dL_law__34 : decode cL_law_ 34 = .ok (.iload 4, 2) := by decide +kernel
theorem dL_law__36 : decode cL_law_ 36 = .ok (.iaload, 1) := by decide +kernel
theorem dL_law__37 : decode cL_law_ 37 = .ok (.bipush 63, 2) := by decide +kernel
theorem dL_law__39 : decode cL_law_ 39 = .ok (.iand, 1) := by decide +kernel
theorem dL_law__40 : decode cL_law_ 40 = .ok (.tableswitch 2500 0 44 #[196, 269, 294, 338, 382, 395, 463, 531, 615, 699, 767, 858, 914, 982, 1038, 1094, 1107, 1120, 1188, 1244, 1312, 1368, 1436, 1504, 1572, 1664, 1736, 1780, 1793, 1806, 1819, 1887, 1943, 1999, 2067, 2080, 2093, 2177, 2261, 2345, 2413, 2438, 2451, 2462, 2475], 196) := by decide +kernel
theorem dL_law__236 : decode cL_law_ 236 = .ok (.aload_n 1, 1) := by decide +kernel
theorem dL_law__237 : decode cL_law_ 237 = .ok (.aload_n 0, 1) := by decide +kernel
theorem dL_law__238 : decode cL_law_ 238 = .ok (.iload 4, 2) := by decide +kernel
theorem dL_law__240 : decode cL_law_ 240 = .ok (.iconst 1, 1) := by decide +kernel
theorem dL_law__241 : decode cL_law_ 241 = .ok (.iadd, 1) := by decide +kernel
theorem dL_law__242 : decode cL_law_ 242 = .ok (.iaload, 1) := by decide +kernel
theorem dL_law__243 : decode cL_law_ 243 = .ok (.aload_n 0, 1) := by decide +kernel
theorem dL_law__244 : decode cL_law_ 244 = .ok (.iload 4, 2) := by decide +kernel
theorem dL_law__246 : decode cL_law_ 246 = .ok (.iconst 2, 1) := by decide +kernel
theorem dL_law__247 : decode cL_law_ 247 = .ok (.iadd, 1) := by decide +kernel
theorem dL_law__248 : decode cL_law_ 248 = .ok (.iaload, 1) := by decide +kernel
theorem dL_law__249 : decode cL_law_ 249 = .ok (.aload_n 0, 1) := by decide +kernel
theorem dL_law__250 : decode cL_law_ 250 = .ok (.iload 4, 2) := by decide +kernel
theorem dL_law__252 : decode cL_law_ 252 = .ok (.iconst 3, 1) := by decide +kernel
theorem dL_law__253 : decode cL_law_ 253 = .ok (.iadd, 1) := by decide +kernel
theorem dL_law__254 : decode cL_law_ 254 = .ok (.iaload, 1) := by decide +kernel
theorem dL_law__255 : decode cL_law_ 255 = .ok (.aload_n 0, 1) := by decide +kernel
theorem dL_law__256 : decode cL_law_ 256 = .ok (.iload 4, 2) := by decide +kernel
theorem dL_law__258 : decode cL_law_ 258 = .ok (.iconst 4, 1) := by decide +kernel
theorem dL_law__259 : decode cL_law_ 259 = .ok (.iadd, 1) := by decide +kernel
theorem dL_law__260 : decode cL_law_ 260 = .ok (.iaload, 1) := by decide +kernel
theorem dL_law__261 : decode cL_law_ 261 = .ok (.aload_n 0, 1) := by decide +kernel
theorem dL_law__262 : decode cL_law_ 262 = .ok (.iload 4, 2) := by decide +kernel
theorem dL_law__264 : decode cL_law_ 264 = .ok (.iconst 5, 1) := by decide +kernel
theorem dL_law__265 : decode cL_law_ 265 = .ok (.iadd, 1) := by decide +kernel
theorem dL_law__266 : decode cL_law_ 266 = .ok (.iaload, 1) := by decide +kernel
theorem dL_law__267 : decode cL_law_ 267 = .ok (.invokevirtual 120, 3) := by decide +kernel
theorem dL_law__270 : decode cL_law_ 270 = .ok (.aload_n 2, 1) := by decide +kernel
theorem dL_law__271 : decode cL_law_ 271 = .ok (.aload_n 0, 1) := by decide +kernel
theorem dL_law__272 : decode cL_law_ 272 = .ok (.iload 4, 2) := by decide +kernel
theorem dL_law__274 : decode cL_law_ 274 = .ok (.iconst 1, 1) := by decide +kernel
theorem dL_law__275 : decode cL_law_ 275 = .ok (.iadd, 1) := by decide +kernel
theorem dL_law__276 : decode cL_law_ 276 = .ok (.iaload, 1) := by decide +kernel
theorem dL_law__277 : decode cL_law_ 277 = .ok (.aload_n 0, 1) := by decide +kernel
theorem dL_law__278 : decode cL_law_ 278 = .ok (.iload 4, 2) := by decide +kernel
theorem dL_law__280 : decode cL_law_ 280 = .ok (.iconst 2, 1) := by decide +kernel
theorem dL_law__281 : decode cL_law_ 281 = .ok (.iadd, 1) := by decide +kernel
theorem dL_law__282 : decode cL_law_ 282 = .ok (.iaload, 1) := by decide +kernel
theorem dL_law__283 : decode cL_law_ 283 = .ok (.aload_n 0, 1) := by decide +kernel
theorem dL_law__284 : decode cL_law_ 284 = .ok (.iload 4, 2) := by decide +kernel
theorem dL_law__286 : decode cL_law_ 286 = .ok (.iconst 3, 1) := by decide +kernel
theorem dL_law__287 : decode cL_law_ 287 = .ok (.iadd, 1) := by decide +kernel
theorem dL_law__288 : decode cL_law_ 288 = .ok (.iaload, 1) := by decide +kernel
theorem dL_law__289 : decode cL_law_ 289 = .ok (.aload_n 0, 1) := by decide +kernel
theorem dL_law__290 : decode cL_law_ 290 = .ok (.iload 4, 2) := by decide +kernel
theorem dL_law__292 : decode cL_law_ 292 = .ok (.iconst 4, 1) := by decide +kernel
theorem dL_law__293 : decode cL_law_ 293 = .ok (.iadd, 1) := by decide +kernel
theorem dL_law__294 : decode cL_law_ 294 = .ok (.iaload, 1) := by decide +kernel
theorem dL_law__295 : decode cL_law_ 295 = .ok (.aload_n 0, 1) := by decide +kernel
theorem dL_law__296 : decode cL_law_ 296 = .ok (.iload 4, 2) := by decide +kernel
theorem dL_law__298 : decode cL_law_ 298 = .ok (.iconst 5, 1) := by decide +kernel
theorem dL_law__299 : decode cL_law_ 299 = .ok (.iadd, 1) := by decide +kernel
theorem dL_law__300 : decode cL_law_ 300 = .ok (.iaload, 1) := by decide +kernel
theorem dL_law__301 : decode cL_law_ 301 = .ok (.invokevirtual 124, 3) := by decide +kernel
theorem dL_law__304 : decode cL_law_ 304 = .ok (.if_icmp .eq 2236, 3) := by decide +kernel
theorem dL_law__307 : decode cL_law_ 307 = .ok (.iconst 0, 1) := by decide +kernel
theorem dL_law__308 : decode cL_law_ 308 = .ok (.ireturn, 1) := by decide +kernel
theorem dL_law__309 : decode cL_law_ 309 = .ok (.aload_n 1, 1) := by decide +kernel
theorem dL_law__310 : decode cL_law_ 310 = .ok (.aload_n 0, 1) := by decide +kernel
theorem dL_law__311 : decode cL_law_ 311 = .ok (.iload 4, 2) := by decide +kernel
theorem dL_law__313 : decode cL_law_ 313 = .ok (.iconst 1, 1) := by decide +kernel
theorem dL_law__314 : decode cL_law_ 314 = .ok (.iadd, 1) := by decide +kernel
theorem dL_law__315 : decode cL_law_ 315 = .ok (.iaload, 1) := by decide +kernel
theorem dL_law__316 : decode cL_law_ 316 = .ok (.invokevirtual 125, 3) := by decide +kernel
theorem dL_law__319 : decode cL_law_ 319 = .ok (.aload_n 2, 1) := by decide +kernel
theorem dL_law__320 : decode cL_law_ 320 = .ok (.aload_n 0, 1) := by decide +kernel
theorem dL_law__321 : decode cL_law_ 321 = .ok (.iload 4, 2) := by decide +kernel
theorem dL_law__323 : decode cL_law_ 323 = .ok (.iconst 1, 1) := by decide +kernel
theorem dL_law__324 : decode cL_law_ 324 = .ok (.iadd, 1) := by decide +kernel
theorem dL_law__325 : decode cL_law_ 325 = .ok (.iaload, 1) := by decide +kernel
theorem dL_law__326 : decode cL_law_ 326 = .ok (.invokevirtual 129, 3) := by decide +kernel
theorem dL_law__329 : decode cL_law_ 329 = .ok (.if_icmp .eq 2211, 3) := by decide +kernel
theorem dL_law__332 : decode cL_law_ 332 = .ok (.iconst 0, 1) := by decide +kernel
theorem dL_law__333 : decode cL_law_ 333 = .ok (.ireturn, 1) := by decide +kernel
theorem dL_law__334 : decode cL_law_ 334 = .ok (.aload_n 1, 1) := by decide +kernel
theorem dL_law__335 : decode cL_law_ 335 = .ok (.aload_n 3, 1) := by decide +kernel
theorem dL_law__336 : decode cL_law_ 336 = .ok (.invokestatic 130, 3) := by decide +kernel
theorem dL_law__339 : decode cL_law_ 339 = .ok (.istore 5, 2) := by decide +kernel
theorem dL_law__341 : decode cL_law_ 341 = .ok (.aload_n 2, 1) := by decide +kernel
theorem dL_law__342 : decode cL_law_ 342 = .ok (.invokevirtual 135, 3) := by decide +kernel
theorem dL_law__345 : decode cL_law_ 345 = .ok (.istore 6, 2) := by decide +kernel
theorem dL_law__347 : decode cL_law_ 347 = .ok (.aload_n 2, 1) := by decide +kernel
theorem dL_law__348 : decode cL_law_ 348 = .ok (.invokevirtual 136, 3) := by decide +kernel
theorem dL_law__351 : decode cL_law_ 351 = .ok (.iload 5, 2) := by decide +kernel
theorem dL_law__353 : decode cL_law_ 353 = .ok (.if_icmp .eq 5, 3) := by decide +kernel
theorem dL_law__356 : decode cL_law_ 356 = .ok (.iconst 0, 1) := by decide +kernel
theorem dL_law__357 : decode cL_law_ 357 = .ok (.ireturn, 1) := by decide +kernel
theorem dL_law__358 : decode cL_law_ 358 = .ok (.iload 5, 2) := by decide +kernel
theorem dL_law__360 : decode cL_law_ 360 = .ok (.ifCond .ne 15, 3) := by decide +kernel
theorem dL_law__363 : decode cL_law_ 363 = .ok (.aload_n 3, 1) := by decide +kernel
theorem dL_law__364 : decode cL_law_ 364 = .ok (.iconst 0, 1) := by decide +kernel
theorem dL_law__365 : decode cL_law_ 365 = .ok (.laload, 1) := by decide +kernel
theorem dL_law__366 : decode cL_law_ 366 = .ok (.iload 6, 2) := by decide +kernel
theorem dL_law__368 : decode cL_law_ 368 = .ok (.i2l, 1) := by decide +kernel
theorem dL_law__369 : decode cL_law_ 369 = .ok (.lcmp, 1) := by decide +kernel
theorem dL_law__370 : decode cL_law_ 370 = .ok (.ifCond .eq 5, 3) := by decide +kernel
theorem dL_law__373 : decode cL_law_ 373 = .ok (.iconst 0, 1) := by decide +kernel
theorem dL_law__374 : decode cL_law_ 374 = .ok (.ireturn, 1) := by decide +kernel
theorem dL_law__375 : decode cL_law_ 375 = .ok (.goto 2165, 3) := by decide +kernel
theorem dL_law__378 : decode cL_law_ 378 = .ok (.aload_n 1, 1) := by decide +kernel
theorem dL_law__379 : decode cL_law_ 379 = .ok (.aload_n 3, 1) := by decide +kernel
theorem dL_law__380 : decode cL_law_ 380 = .ok (.invokestatic 139, 3) := by decide +kernel
theorem dL_law__383 : decode cL_law_ 383 = .ok (.istore 5, 2) := by decide +kernel
theorem dL_law__385 : decode cL_law_ 385 = .ok (.aload_n 2, 1) := by decide +kernel
theorem dL_law__386 : decode cL_law_ 386 = .ok (.invokevirtual 141, 3) := by decide +kernel
theorem dL_law__389 : decode cL_law_ 389 = .ok (.istore 6, 2) := by decide +kernel
theorem dL_law__391 : decode cL_law_ 391 = .ok (.aload_n 2, 1) := by decide +kernel
theorem dL_law__392 : decode cL_law_ 392 = .ok (.invokevirtual 136, 3) := by decide +kernel
theorem dL_law__395 : decode cL_law_ 395 = .ok (.iload 5, 2) := by decide +kernel
theorem dL_law__397 : decode cL_law_ 397 = .ok (.if_icmp .eq 5, 3) := by decide +kernel
theorem dL_law__400 : decode cL_law_ 400 = .ok (.iconst 0, 1) := by decide +kernel
theorem dL_law__401 : decode cL_law_ 401 = .ok (.ireturn, 1) := by decide +kernel
theorem dL_law__402 : decode cL_law_ 402 = .ok (.iload 5, 2) := by decide +kernel
theorem dL_law__404 : decode cL_law_ 404 = .ok (.ifCond .ne 15, 3) := by decide +kernel
theorem dL_law__407 : decode cL_law_ 407 = .ok (.aload_n 3, 1) := by decide +kernel
theorem dL_law__408 : decode cL_law_ 408 = .ok (.iconst 0, 1) := by decide +kernel
theorem dL_law__409 : decode cL_law_ 409 = .ok (.laload, 1) := by decide +kernel
theorem dL_law__410 : decode cL_law_ 410 = .ok (.iload 6, 2) := by decide +kernel
theorem dL_law__412 : decode cL_law_ 412 = .ok (.i2l, 1) := by decide +kernel
theorem dL_law__413 : decode cL_law_ 413 = .ok (.lcmp, 1) := by decide +kernel
theorem dL_law__414 : decode cL_law_ 414 = .ok (.ifCond .eq 5, 3) := by decide +kernel
theorem dL_law__417 : decode cL_law_ 417 = .ok (.iconst 0, 1) := by decide +kernel
theorem dL_law__418 : decode cL_law_ 418 = .ok (.ireturn, 1) := by decide +kernel
theorem dL_law__419 : decode cL_law_ 419 = .ok (.goto 2121, 3) := by decide +kernel
theorem dL_law__422 : decode cL_law_ 422 = .ok (.aload_n 1, 1) := by decide +kernel
theorem dL_law__423 : decode cL_law_ 423 = .ok (.invokevirtual 142, 3) := by decide +kernel
theorem dL_law__426 : decode cL_law_ 426 = .ok (.aload_n 2, 1) := by decide +kernel
theorem dL_law__427 : decode cL_law_ 427 = .ok (.invokevirtual 145, 3) := by decide +kernel
theorem dL_law__430 : decode cL_law_ 430 = .ok (.if_icmp .eq 2110, 3) := by decide +kernel
theorem dL_law__433 : decode cL_law_ 433 = .ok (.iconst 0, 1) := by decide +kernel
theorem dL_law__434 : decode cL_law_ 434 = .ok (.ireturn, 1) := by decide +kernel
theorem dL_law__435 : decode cL_law_ 435 = .ok (.aload_n 1, 1) := by decide +kernel
theorem dL_law__436 : decode cL_law_ 436 = .ok (.aload_n 0, 1) := by decide +kernel
theorem dL_law__437 : decode cL_law_ 437 = .ok (.iload 4, 2) := by decide +kernel
theorem dL_law__439 : decode cL_law_ 439 = .ok (.iconst 1, 1) := by decide +kernel
theorem dL_law__440 : decode cL_law_ 440 = .ok (.iadd, 1) := by decide +kernel
theorem dL_law__441 : decode cL_law_ 441 = .ok (.iaload, 1) := by decide +kernel
theorem dL_law__442 : decode cL_law_ 442 = .ok (.aload_n 0, 1) := by decide +kernel
theorem dL_law__443 : decode cL_law_ 443 = .ok (.iload 4, 2) := by decide +kernel
theorem dL_law__445 : decode cL_law_ 445 = .ok (.iconst 2, 1) := by decide +kernel
theorem dL_law__446 : decode cL_law_ 446 = .ok (.iadd, 1) := by decide +kernel
theorem dL_law__447 : decode cL_law_ 447 = .ok (.iaload, 1) := by decide +kernel
theorem dL_law__448 : decode cL_law_ 448 = .ok (.aload_n 3, 1) := by decide +kernel
theorem dL_law__449 : decode cL_law_ 449 = .ok (.invokestatic 146, 3) := by decide +kernel
theorem dL_law__452 : decode cL_law_ 452 = .ok (.istore 5, 2) := by decide +kernel
theorem dL_law__454 : decode cL_law_ 454 = .ok (.aload_n 2, 1) := by decide +kernel
theorem dL_law__455 : decode cL_law_ 455 = .ok (.aload_n 0, 1) := by decide +kernel
theorem dL_law__456 : decode cL_law_ 456 = .ok (.iload 4, 2) := by decide +kernel
theorem dL_law__458 : decode cL_law_ 458 = .ok (.iconst 1, 1) := by decide +kernel
theorem dL_law__459 : decode cL_law_ 459 = .ok (.iadd, 1) := by decide +kernel
theorem dL_law__460 : decode cL_law_ 460 = .ok (.iaload, 1) := by decide +kernel
theorem dL_law__461 : decode cL_law_ 461 = .ok (.aload_n 0, 1) := by decide +kernel
theorem dL_law__462 : decode cL_law_ 462 = .ok (.iload 4, 2) := by decide +kernel
theorem dL_law__464 : decode cL_law_ 464 = .ok (.iconst 2, 1) := by decide +kernel
theorem dL_law__465 : decode cL_law_ 465 = .ok (.iadd, 1) := by decide +kernel
theorem dL_law__466 : decode cL_law_ 466 = .ok (.iaload, 1) := by decide +kernel
theorem dL_law__467 : decode cL_law_ 467 = .ok (.invokevirtual 149, 3) := by decide +kernel
theorem dL_law__470 : decode cL_law_ 470 = .ok (.istore 6, 2) := by decide +kernel
theorem dL_law__472 : decode cL_law_ 472 = .ok (.aload_n 2, 1) := by decide +kernel
theorem dL_law__473 : decode cL_law_ 473 = .ok (.invokevirtual 136, 3) := by decide +kernel
theorem dL_law__476 : decode cL_law_ 476 = .ok (.iload 5, 2) := by decide +kernel
theorem dL_law__478 : decode cL_law_ 478 = .ok (.if_icmp .eq 5, 3) := by decide +kernel
theorem dL_law__481 : decode cL_law_ 481 = .ok (.iconst 0, 1) := by decide +kernel
theorem dL_law__482 : decode cL_law_ 482 = .ok (.ireturn, 1) := by decide +kernel
theorem dL_law__483 : decode cL_law_ 483 = .ok (.iload 5, 2) := by decide +kernel
theorem dL_law__485 : decode cL_law_ 485 = .ok (.ifCond .ne 15, 3) := by decide +kernel
theorem dL_law__488 : decode cL_law_ 488 = .ok (.aload_n 3, 1) := by decide +kernel
theorem dL_law__489 : decode cL_law_ 489 = .ok (.iconst 0, 1) := by decide +kernel
theorem dL_law__490 : decode cL_law_ 490 = .ok (.laload, 1) := by decide +kernel
theorem dL_law__491 : decode cL_law_ 491 = .ok (.iload 6, 2) := by decide +kernel
theorem dL_law__493 : decode cL_law_ 493 = .ok (.i2l, 1) := by decide +kernel
theorem dL_law__494 : decode cL_law_ 494 = .ok (.lcmp, 1) := by decide +kernel
theorem dL_law__495 : decode cL_law_ 495 = .ok (.ifCond .eq 5, 3) := by decide +kernel
theorem dL_law__498 : decode cL_law_ 498 = .ok (.iconst 0, 1) := by decide +kernel
theorem dL_law__499 : decode cL_law_ 499 = .ok (.ireturn, 1) := by decide +kernel
theorem dL_law__500 : decode cL_law_ 500 = .ok (.goto 2040, 3) := by decide +kernel
theorem dL_law__503 : decode cL_law_ 503 = .ok (.aload_n 1, 1) := by decide +kernel
theorem dL_law__504 : decode cL_law_ 504 = .ok (.aload_n 0, 1) := by decide +kernel
theorem dL_law__505 : decode cL_law_ 505 = .ok (.iload 4, 2) := by decide +kernel
theorem dL_law__507 : decode cL_law_ 507 = .ok (.iconst 1, 1) := by decide +kernel
theorem dL_law__508 : decode cL_law_ 508 = .ok (.iadd, 1) := by decide +kernel
theorem dL_law__509 : decode cL_law_ 509 = .ok (.iaload, 1) := by decide +kernel
theorem dL_law__510 : decode cL_law_ 510 = .ok (.aload_n 0, 1) := by decide +kernel
theorem dL_law__511 : decode cL_law_ 511 = .ok (.iload 4, 2) := by decide +kernel
theorem dL_law__513 : decode cL_law_ 513 = .ok (.iconst 2, 1) := by decide +kernel
theorem dL_law__514 : decode cL_law_ 514 = .ok (.iadd, 1) := by decide +kernel
theorem dL_law__515 : decode cL_law_ 515 = .ok (.iaload, 1) := by decide +kernel
theorem dL_law__516 : decode cL_law_ 516 = .ok (.aload_n 3, 1) := by decide +kernel
theorem dL_law__517 : decode cL_law_ 517 = .ok (.invokestatic 150, 3) := by decide +kernel
theorem dL_law__520 : decode cL_law_ 520 = .ok (.istore 5, 2) := by decide +kernel
theorem dL_law__522 : decode cL_law_ 522 = .ok (.aload_n 2, 1) := by decide +kernel
theorem dL_law__523 : decode cL_law_ 523 = .ok (.aload_n 0, 1) := by decide +kernel
theorem dL_law__524 : decode cL_law_ 524 = .ok (.iload 4, 2) := by decide +kernel
theorem dL_law__526 : decode cL_law_ 526 = .ok (.iconst 1, 1) := by decide +kernel
theorem dL_law__527 : decode cL_law_ 527 = .ok (.iadd, 1) := by decide +kernel
theorem dL_law__528 : decode cL_law_ 528 = .ok (.iaload, 1) := by decide +kernel
theorem dL_law__529 : decode cL_law_ 529 = .ok (.aload_n 0, 1) := by decide +kernel
theorem dL_law__530 : decode cL_law_ 530 = .ok (.iload 4, 2) := by decide +kernel
theorem dL_law__532 : decode cL_law_ 532 = .ok (.iconst 2, 1) := by decide +kernel
theorem dL_law__533 : decode cL_law_ 533 = .ok (.iadd, 1) := by decide +kernel
theorem dL_law__534 : decode cL_law_ 534 = .ok (.iaload, 1) := by decide +kernel
theorem dL_law__535 : decode cL_law_ 535 = .ok (.invokevirtual 152, 3) := by decide +kernel
theorem dL_law__538 : decode cL_law_ 538 = .ok (.istore 6, 2) := by decide +kernel
theorem dL_law__540 : decode cL_law_ 540 = .ok (.aload_n 2, 1) := by decide +kernel
theorem dL_law__541 : decode cL_law_ 541 = .ok (.invokevirtual 136, 3) := by decide +kernel
theorem dL_law__544 : decode cL_law_ 544 = .ok (.iload 5, 2) := by decide +kernel
theorem dL_law__546 : decode cL_law_ 546 = .ok (.if_icmp .eq 5, 3) := by decide +kernel
theorem dL_law__549 : decode cL_law_ 549 = .ok (.iconst 0, 1) := by decide +kernel
theorem dL_law__550 : decode cL_law_ 550 = .ok (.ireturn, 1) := by decide +kernel
theorem dL_law__551 : decode cL_law_ 551 = .ok (.iload 5, 2) := by decide +kernel
theorem dL_law__553 : decode cL_law_ 553 = .ok (.ifCond .ne 15, 3) := by decide +kernel
theorem dL_law__556 : decode cL_law_ 556 = .ok (.aload_n 3, 1) := by decide +kernel
theorem dL_law__557 : decode cL_law_ 557 = .ok (.iconst 0, 1) := by decide +kernel
theorem dL_law__558 : decode cL_law_ 558 = .ok (.laload, 1) := by decide +kernel
theorem dL_law__559 : decode cL_law_ 559 = .ok (.iload 6, 2) := by decide +kernel
theorem dL_law__561 : decode cL_law_ 561 = .ok (.i2l, 1) := by decide +kernel
theorem dL_law__562 : decode cL_law_ 562 = .ok (.lcmp, 1) := by decide +kernel
theorem dL_law__563 : decode cL_law_ 563 = .ok (.ifCond .eq 5, 3) := by decide +kernel
theorem dL_law__566 : decode cL_law_ 566 = .ok (.iconst 0, 1) := by decide +kernel
theorem dL_law__567 : decode cL_law_ 567 = .ok (.ireturn, 1) := by decide +kernel
theorem dL_law__568 : decode cL_law_ 568 = .ok (.goto 1972, 3) := by decide +kernel
theorem dL_law__571 : decode cL_law_ 571 = .ok (.aload_n 1, 1) := by decide +kernel
theorem dL_law__572 : decode cL_law_ 572 = .ok (.aload_n 0, 1) := by decide +kernel
theorem dL_law__573 : decode cL_law_ 573 = .ok (.iload 4, 2) := by decide +kernel
theorem dL_law__575 : decode cL_law_ 575 = .ok (.iconst 1, 1) := by decide +kernel
theorem dL_law__576 : decode cL_law_ 576 = .ok (.iadd, 1) := by decide +kernel
theorem dL_law__577 : decode cL_law_ 577 = .ok (.iaload, 1) := by decide +kernel
theorem dL_law__578 : decode cL_law_ 578 = .ok (.aload_n 0, 1) := by decide +kernel
theorem dL_law__579 : decode cL_law_ 579 = .ok (.iload 4, 2) := by decide +kernel
theorem dL_law__581 : decode cL_law_ 581 = .ok (.iconst 2, 1) := by decide +kernel
theorem dL_law__582 : decode cL_law_ 582 = .ok (.iadd, 1) := by decide +kernel
theorem dL_law__583 : decode cL_law_ 583 = .ok (.iaload, 1) := by decide +kernel
theorem dL_law__584 : decode cL_law_ 584 = .ok (.ifCond .eq 7, 3) := by decide +kernel
theorem dL_law__587 : decode cL_law_ 587 = .ok (.iconst 1, 1) := by decide +kernel
theorem dL_law__588 : decode cL_law_ 588 = .ok (.goto 4, 3) := by decide +kernel
theorem dL_law__591 : decode cL_law_ 591 = .ok (.iconst 0, 1) := by decide +kernel
theorem dL_law__592 : decode cL_law_ 592 = .ok (.aload_n 3, 1) := by decide +kernel
theorem dL_law__593 : decode cL_law_ 593 = .ok (.invokestatic 153, 3) := by decide +kernel
theorem dL_law__596 : decode cL_law_ 596 = .ok (.istore 5, 2) := by decide +kernel
theorem dL_law__598 : decode cL_law_ 598 = .ok (.aload_n 2, 1) := by decide +kernel
theorem dL_law__599 : decode cL_law_ 599 = .ok (.aload_n 0, 1) := by decide +kernel
theorem dL_law__600 : decode cL_law_ 600 = .ok (.iload 4, 2) := by decide +kernel
theorem dL_law__602 : decode cL_law_ 602 = .ok (.iconst 1, 1) := by decide +kernel
theorem dL_law__603 : decode cL_law_ 603 = .ok (.iadd, 1) := by decide +kernel
theorem dL_law__604 : decode cL_law_ 604 = .ok (.iaload, 1) := by decide +kernel
theorem dL_law__605 : decode cL_law_ 605 = .ok (.aload_n 0, 1) := by decide +kernel
theorem dL_law__606 : decode cL_law_ 606 = .ok (.iload 4, 2) := by decide +kernel
theorem dL_law__608 : decode cL_law_ 608 = .ok (.iconst 2, 1) := by decide +kernel
theorem dL_law__609 : decode cL_law_ 609 = .ok (.iadd, 1) := by decide +kernel
theorem dL_law__610 : decode cL_law_ 610 = .ok (.iaload, 1) := by decide +kernel
theorem dL_law__611 : decode cL_law_ 611 = .ok (.ifCond .eq 7, 3) := by decide +kernel
theorem dL_law__614 : decode cL_law_ 614 = .ok (.iconst 1, 1) := by decide +kernel
theorem dL_law__615 : decode cL_law_ 615 = .ok (.goto 4, 3) := by decide +kernel
theorem dL_law__618 : decode cL_law_ 618 = .ok (.iconst 0, 1) := by decide +kernel
theorem dL_law__619 : decode cL_law_ 619 = .ok (.invokevirtual 156, 3) := by decide +kernel
theorem dL_law__622 : decode cL_law_ 622 = .ok (.istore 6, 2) := by decide +kernel
theorem dL_law__624 : decode cL_law_ 624 = .ok (.aload_n 2, 1) := by decide +kernel
theorem dL_law__625 : decode cL_law_ 625 = .ok (.invokevirtual 136, 3) := by decide +kernel
theorem dL_law__628 : decode cL_law_ 628 = .ok (.iload 5, 2) := by decide +kernel
theorem dL_law__630 : decode cL_law_ 630 = .ok (.if_icmp .eq 5, 3) := by decide +kernel
theorem dL_law__633 : decode cL_law_ 633 = .ok (.iconst 0, 1) := by decide +kernel
theorem dL_law__634 : decode cL_law_ 634 = .ok (.ireturn, 1) := by decide +kernel
theorem dL_law__635 : decode cL_law_ 635 = .ok (.iload 5, 2) := by decide +kernel
theorem dL_law__637 : decode cL_law_ 637 = .ok (.ifCond .ne 15, 3) := by decide +kernel
theorem dL_law__640 : decode cL_law_ 640 = .ok (.aload_n 3, 1) := by decide +kernel
theorem dL_law__641 : decode cL_law_ 641 = .ok (.iconst 0, 1) := by decide +kernel
theorem dL_law__642 : decode cL_law_ 642 = .ok (.laload, 1) := by decide +kernel
theorem dL_law__643 : decode cL_law_ 643 = .ok (.iload 6, 2) := by decide +kernel
theorem dL_law__645 : decode cL_law_ 645 = .ok (.i2l, 1) := by decide +kernel
theorem dL_law__646 : decode cL_law_ 646 = .ok (.lcmp, 1) := by decide +kernel
theorem dL_law__647 : decode cL_law_ 647 = .ok (.ifCond .eq 5, 3) := by decide +kernel
theorem dL_law__650 : decode cL_law_ 650 = .ok (.iconst 0, 1) := by decide +kernel
theorem dL_law__651 : decode cL_law_ 651 = .ok (.ireturn, 1) := by decide +kernel
theorem dL_law__652 : decode cL_law_ 652 = .ok (.goto 1888, 3) := by decide +kernel
theorem dL_law__655 : decode cL_law_ 655 = .ok (.aload_n 1, 1) := by decide +kernel
theorem dL_law__656 : decode cL_law_ 656 = .ok (.aload_n 0, 1) := by decide +kernel
theorem dL_law__657 : decode cL_law_ 657 = .ok (.iload 4, 2) := by decide +kernel
theorem dL_law__659 : decode cL_law_ 659 = .ok (.iconst 1, 1) := by decide +kernel
theorem dL_law__660 : decode cL_law_ 660 = .ok (.iadd, 1) := by decide +kernel
theorem dL_law__661 : decode cL_law_ 661 = .ok (.iaload, 1) := by decide +kernel
theorem dL_law__662 : decode cL_law_ 662 = .ok (.aload_n 0, 1) := by decide +kernel
theorem dL_law__663 : decode cL_law_ 663 = .ok (.iload 4, 2) := by decide +kernel
theorem dL_law__665 : decode cL_law_ 665 = .ok (.iconst 2, 1) := by decide +kernel
theorem dL_law__666 : decode cL_law_ 666 = .ok (.iadd, 1) := by decide +kernel
theorem dL_law__667 : decode cL_law_ 667 = .ok (.iaload, 1) := by decide +kernel
theorem dL_law__668 : decode cL_law_ 668 = .ok (.ifCond .eq 7, 3) := by decide +kernel
theorem dL_law__671 : decode cL_law_ 671 = .ok (.iconst 1, 1) := by decide +kernel
theorem dL_law__672 : decode cL_law_ 672 = .ok (.goto 4, 3) := by decide +kernel
theorem dL_law__675 : decode cL_law_ 675 = .ok (.iconst 0, 1) := by decide +kernel
theorem dL_law__676 : decode cL_law_ 676 = .ok (.aload_n 3, 1) := by decide +kernel
theorem dL_law__677 : decode cL_law_ 677 = .ok (.invokestatic 157, 3) := by decide +kernel
theorem dL_law__680 : decode cL_law_ 680 = .ok (.istore 5, 2) := by decide +kernel
theorem dL_law__682 : decode cL_law_ 682 = .ok (.aload_n 2, 1) := by decide +kernel
theorem dL_law__683 : decode cL_law_ 683 = .ok (.aload_n 0, 1) := by decide +kernel
theorem dL_law__684 : decode cL_law_ 684 = .ok (.iload 4, 2) := by decide +kernel
theorem dL_law__686 : decode cL_law_ 686 = .ok (.iconst 1, 1) := by decide +kernel
theorem dL_law__687 : decode cL_law_ 687 = .ok (.iadd, 1) := by decide +kernel
theorem dL_law__688 : decode cL_law_ 688 = .ok (.iaload, 1) := by decide +kernel
theorem dL_law__689 : decode cL_law_ 689 = .ok (.aload_n 0, 1) := by decide +kernel
theorem dL_law__690 : decode cL_law_ 690 = .ok (.iload 4, 2) := by decide +kernel
theorem dL_law__692 : decode cL_law_ 692 = .ok (.iconst 2, 1) := by decide +kernel
theorem dL_law__693 : decode cL_law_ 693 = .ok (.iadd, 1) := by decide +kernel
theorem dL_law__694 : decode cL_law_ 694 = .ok (.iaload, 1) := by decide +kernel
theorem dL_law__695 : decode cL_law_ 695 = .ok (.ifCond .eq 7, 3) := by decide +kernel
theorem dL_law__698 : decode cL_law_ 698 = .ok (.iconst 1, 1) := by decide +kernel
theorem dL_law__699 : decode cL_law_ 699 = .ok (.goto 4, 3) := by decide +kernel
theorem dL_law__702 : decode cL_law_ 702 = .ok (.iconst 0, 1) := by decide +kernel
theorem dL_law__703 : decode cL_law_ 703 = .ok (.invokevirtual 159, 3) := by decide +kernel
theorem dL_law__706 : decode cL_law_ 706 = .ok (.istore 6, 2) := by decide +kernel
theorem dL_law__708 : decode cL_law_ 708 = .ok (.aload_n 2, 1) := by decide +kernel
theorem dL_law__709 : decode cL_law_ 709 = .ok (.invokevirtual 136, 3) := by decide +kernel
theorem dL_law__712 : decode cL_law_ 712 = .ok (.iload 5, 2) := by decide +kernel
theorem dL_law__714 : decode cL_law_ 714 = .ok (.if_icmp .eq 5, 3) := by decide +kernel
theorem dL_law__717 : decode cL_law_ 717 = .ok (.iconst 0, 1) := by decide +kernel
theorem dL_law__718 : decode cL_law_ 718 = .ok (.ireturn, 1) := by decide +kernel
theorem dL_law__719 : decode cL_law_ 719 = .ok (.iload 5, 2) := by decide +kernel
theorem dL_law__721 : decode cL_law_ 721 = .ok (.ifCond .ne 15, 3) := by decide +kernel
theorem dL_law__724 : decode cL_law_ 724 = .ok (.aload_n 3, 1) := by decide +kernel
theorem dL_law__725 : decode cL_law_ 725 = .ok (.iconst 0, 1) := by decide +kernel
theorem dL_law__726 : decode cL_law_ 726 = .ok (.laload, 1) := by decide +kernel
theorem dL_law__727 : decode cL_law_ 727 = .ok (.iload 6, 2) := by decide +kernel
theorem dL_law__729 : decode cL_law_ 729 = .ok (.i2l, 1) := by decide +kernel
theorem dL_law__730 : decode cL_law_ 730 = .ok (.lcmp, 1) := by decide +kernel
theorem dL_law__731 : decode cL_law_ 731 = .ok (.ifCond .eq 5, 3) := by decide +kernel
theorem dL_law__734 : decode cL_law_ 734 = .ok (.iconst 0, 1) := by decide +kernel
theorem dL_law__735 : decode cL_law_ 735 = .ok (.ireturn, 1) := by decide +kernel
theorem dL_law__736 : decode cL_law_ 736 = .ok (.goto 1804, 3) := by decide +kernel
theorem dL_law__739 : decode cL_law_ 739 = .ok (.aload_n 1, 1) := by decide +kernel
theorem dL_law__740 : decode cL_law_ 740 = .ok (.aload_n 0, 1) := by decide +kernel
theorem dL_law__741 : decode cL_law_ 741 = .ok (.iload 4, 2) := by decide +kernel
theorem dL_law__743 : decode cL_law_ 743 = .ok (.iconst 1, 1) := by decide +kernel
theorem dL_law__744 : decode cL_law_ 744 = .ok (.iadd, 1) := by decide +kernel
theorem dL_law__745 : decode cL_law_ 745 = .ok (.iaload, 1) := by decide +kernel
theorem dL_law__746 : decode cL_law_ 746 = .ok (.aload_n 0, 1) := by decide +kernel
theorem dL_law__747 : decode cL_law_ 747 = .ok (.iload 4, 2) := by decide +kernel
theorem dL_law__749 : decode cL_law_ 749 = .ok (.iconst 2, 1) := by decide +kernel
theorem dL_law__750 : decode cL_law_ 750 = .ok (.iadd, 1) := by decide +kernel
theorem dL_law__751 : decode cL_law_ 751 = .ok (.iaload, 1) := by decide +kernel
theorem dL_law__752 : decode cL_law_ 752 = .ok (.aload_n 3, 1) := by decide +kernel
theorem dL_law__753 : decode cL_law_ 753 = .ok (.invokestatic 160, 3) := by decide +kernel
theorem dL_law__756 : decode cL_law_ 756 = .ok (.istore 5, 2) := by decide +kernel
theorem dL_law__758 : decode cL_law_ 758 = .ok (.aload_n 2, 1) := by decide +kernel
theorem dL_law__759 : decode cL_law_ 759 = .ok (.aload_n 0, 1) := by decide +kernel
theorem dL_law__760 : decode cL_law_ 760 = .ok (.iload 4, 2) := by decide +kernel
theorem dL_law__762 : decode cL_law_ 762 = .ok (.iconst 1, 1) := by decide +kernel
theorem dL_law__763 : decode cL_law_ 763 = .ok (.iadd, 1) := by decide +kernel
theorem dL_law__764 : decode cL_law_ 764 = .ok (.iaload, 1) := by decide +kernel
theorem dL_law__765 : decode cL_law_ 765 = .ok (.aload_n 0, 1) := by decide +kernel
theorem dL_law__766 : decode cL_law_ 766 = .ok (.iload 4, 2) := by decide +kernel
theorem dL_law__768 : decode cL_law_ 768 = .ok (.iconst 2, 1) := by decide +kernel
theorem dL_law__769 : decode cL_law_ 769 = .ok (.iadd, 1) := by decide +kernel
theorem dL_law__770 : decode cL_law_ 770 = .ok (.iaload, 1) := by decide +kernel
theorem dL_law__771 : decode cL_law_ 771 = .ok (.invokevirtual 162, 3) := by decide +kernel
theorem dL_law__774 : decode cL_law_ 774 = .ok (.istore 6, 2) := by decide +kernel
theorem dL_law__776 : decode cL_law_ 776 = .ok (.aload_n 2, 1) := by decide +kernel
theorem dL_law__777 : decode cL_law_ 777 = .ok (.invokevirtual 136, 3) := by decide +kernel
theorem dL_law__780 : decode cL_law_ 780 = .ok (.iload 5, 2) := by decide +kernel
theorem dL_law__782 : decode cL_law_ 782 = .ok (.if_icmp .eq 5, 3) := by decide +kernel
theorem dL_law__785 : decode cL_law_ 785 = .ok (.iconst 0, 1) := by decide +kernel
theorem dL_law__786 : decode cL_law_ 786 = .ok (.ireturn, 1) := by decide +kernel
theorem dL_law__787 : decode cL_law_ 787 = .ok (.iload 5, 2) := by decide +kernel
theorem dL_law__789 : decode cL_law_ 789 = .ok (.ifCond .ne 15, 3) := by decide +kernel
theorem dL_law__792 : decode cL_law_ 792 = .ok (.aload_n 3, 1) := by decide +kernel
theorem dL_law__793 : decode cL_law_ 793 = .ok (.iconst 0, 1) := by decide +kernel
theorem dL_law__794 : decode cL_law_ 794 = .ok (.laload, 1) := by decide +kernel
theorem dL_law__795 : decode cL_law_ 795 = .ok (.iload 6, 2) := by decide +kernel
theorem dL_law__797 : decode cL_law_ 797 = .ok (.i2l, 1) := by decide +kernel
theorem dL_law__798 : decode cL_law_ 798 = .ok (.lcmp, 1) := by decide +kernel
theorem dL_law__799 : decode cL_law_ 799 = .ok (.ifCond .eq 5, 3) := by decide +kernel
theorem dL_law__802 : decode cL_law_ 802 = .ok (.iconst 0, 1) := by decide +kernel
theorem dL_law__803 : decode cL_law_ 803 = .ok (.ireturn, 1) := by decide +kernel
theorem dL_law__804 : decode cL_law_ 804 = .ok (.goto 1736, 3) := by decide +kernel
theorem dL_law__807 : decode cL_law_ 807 = .ok (.aload_n 1, 1) := by decide +kernel
theorem dL_law__808 : decode cL_law_ 808 = .ok (.aload_n 0, 1) := by decide +kernel
theorem dL_law__809 : decode cL_law_ 809 = .ok (.iload 4, 2) := by decide +kernel
theorem dL_law__811 : decode cL_law_ 811 = .ok (.iconst 1, 1) := by decide +kernel
theorem dL_law__812 : decode cL_law_ 812 = .ok (.iadd, 1) := by decide +kernel
theorem dL_law__813 : decode cL_law_ 813 = .ok (.iaload, 1) := by decide +kernel
theorem dL_law__814 : decode cL_law_ 814 = .ok (.aload_n 0, 1) := by decide +kernel
theorem dL_law__815 : decode cL_law_ 815 = .ok (.iload 4, 2) := by decide +kernel
theorem dL_law__817 : decode cL_law_ 817 = .ok (.iconst 2, 1) := by decide +kernel
theorem dL_law__818 : decode cL_law_ 818 = .ok (.iadd, 1) := by decide +kernel
theorem dL_law__819 : decode cL_law_ 819 = .ok (.iaload, 1) := by decide +kernel
theorem dL_law__820 : decode cL_law_ 820 = .ok (.ifCond .eq 7, 3) := by decide +kernel
theorem dL_law__823 : decode cL_law_ 823 = .ok (.iconst 1, 1) := by decide +kernel
theorem dL_law__824 : decode cL_law_ 824 = .ok (.goto 4, 3) := by decide +kernel
theorem dL_law__827 : decode cL_law_ 827 = .ok (.iconst 0, 1) := by decide +kernel
theorem dL_law__828 : decode cL_law_ 828 = .ok (.aload_n 3, 1) := by decide +kernel
theorem dL_law__829 : decode cL_law_ 829 = .ok (.invokestatic 163, 3) := by decide +kernel
theorem dL_law__832 : decode cL_law_ 832 = .ok (.istore 5, 2) := by decide +kernel
theorem dL_law__834 : decode cL_law_ 834 = .ok (.aload_n 2, 1) := by decide +kernel
theorem dL_law__835 : decode cL_law_ 835 = .ok (.aload_n 0, 1) := by decide +kernel
theorem dL_law__836 : decode cL_law_ 836 = .ok (.iload 4, 2) := by decide +kernel
theorem dL_law__838 : decode cL_law_ 838 = .ok (.iconst 1, 1) := by decide +kernel
theorem dL_law__839 : decode cL_law_ 839 = .ok (.iadd, 1) := by decide +kernel
theorem dL_law__840 : decode cL_law_ 840 = .ok (.iaload, 1) := by decide +kernel
theorem dL_law__841 : decode cL_law_ 841 = .ok (.aload_n 0, 1) := by decide +kernel
theorem dL_law__842 : decode cL_law_ 842 = .ok (.iload 4, 2) := by decide +kernel
theorem dL_law__844 : decode cL_law_ 844 = .ok (.iconst 2, 1) := by decide +kernel
theorem dL_law__845 : decode cL_law_ 845 = .ok (.iadd, 1) := by decide +kernel
theorem dL_law__846 : decode cL_law_ 846 = .ok (.iaload, 1) := by decide +kernel
theorem dL_law__847 : decode cL_law_ 847 = .ok (.ifCond .eq 7, 3) := by decide +kernel
theorem dL_law__850 : decode cL_law_ 850 = .ok (.iconst 1, 1) := by decide +kernel
theorem dL_law__851 : decode cL_law_ 851 = .ok (.goto 4, 3) := by decide +kernel
theorem dL_law__854 : decode cL_law_ 854 = .ok (.iconst 0, 1) := by decide +kernel
theorem dL_law__855 : decode cL_law_ 855 = .ok (.invokevirtual 165, 3) := by decide +kernel
theorem dL_law__858 : decode cL_law_ 858 = .ok (.istore 6, 2) := by decide +kernel
theorem dL_law__860 : decode cL_law_ 860 = .ok (.aload_n 2, 1) := by decide +kernel
theorem dL_law__861 : decode cL_law_ 861 = .ok (.invokevirtual 136, 3) := by decide +kernel
theorem dL_law__864 : decode cL_law_ 864 = .ok (.iload 5, 2) := by decide +kernel
theorem dL_law__866 : decode cL_law_ 866 = .ok (.if_icmp .eq 5, 3) := by decide +kernel
theorem dL_law__869 : decode cL_law_ 869 = .ok (.iconst 0, 1) := by decide +kernel
theorem dL_law__870 : decode cL_law_ 870 = .ok (.ireturn, 1) := by decide +kernel
theorem dL_law__871 : decode cL_law_ 871 = .ok (.iload 5, 2) := by decide +kernel
theorem dL_law__873 : decode cL_law_ 873 = .ok (.ifCond .ne 22, 3) := by decide +kernel
theorem dL_law__876 : decode cL_law_ 876 = .ok (.aload_n 3, 1) := by decide +kernel
theorem dL_law__877 : decode cL_law_ 877 = .ok (.iconst 0, 1) := by decide +kernel
theorem dL_law__878 : decode cL_law_ 878 = .ok (.laload, 1) := by decide +kernel
theorem dL_law__879 : decode cL_law_ 879 = .ok (.iload 6, 2) := by decide +kernel
theorem dL_law__881 : decode cL_law_ 881 = .ok (.ifCond .eq 7, 3) := by decide +kernel
theorem dL_law__884 : decode cL_law_ 884 = .ok (.lconst 1, 1) := by decide +kernel
theorem dL_law__885 : decode cL_law_ 885 = .ok (.goto 4, 3) := by decide +kernel
theorem dL_law__888 : decode cL_law_ 888 = .ok (.lconst 0, 1) := by decide +kernel
theorem dL_law__889 : decode cL_law_ 889 = .ok (.lcmp, 1) := by decide +kernel
theorem dL_law__890 : decode cL_law_ 890 = .ok (.ifCond .eq 5, 3) := by decide +kernel
theorem dL_law__893 : decode cL_law_ 893 = .ok (.iconst 0, 1) := by decide +kernel
theorem dL_law__894 : decode cL_law_ 894 = .ok (.ireturn, 1) := by decide +kernel
theorem dL_law__895 : decode cL_law_ 895 = .ok (.goto 1645, 3) := by decide +kernel
theorem dL_law__898 : decode cL_law_ 898 = .ok (.aload_n 1, 1) := by decide +kernel
theorem dL_law__899 : decode cL_law_ 899 = .ok (.aload_n 0, 1) := by decide +kernel
theorem dL_law__900 : decode cL_law_ 900 = .ok (.iload 4, 2) := by decide +kernel
theorem dL_law__902 : decode cL_law_ 902 = .ok (.iconst 1, 1) := by decide +kernel
theorem dL_law__903 : decode cL_law_ 903 = .ok (.iadd, 1) := by decide +kernel
theorem dL_law__904 : decode cL_law_ 904 = .ok (.iaload, 1) := by decide +kernel
theorem dL_law__905 : decode cL_law_ 905 = .ok (.aload_n 3, 1) := by decide +kernel
theorem dL_law__906 : decode cL_law_ 906 = .ok (.invokestatic 166, 3) := by decide +kernel
theorem dL_law__909 : decode cL_law_ 909 = .ok (.istore 5, 2) := by decide +kernel
theorem dL_law__911 : decode cL_law_ 911 = .ok (.aload_n 2, 1) := by decide +kernel
theorem dL_law__912 : decode cL_law_ 912 = .ok (.aload_n 0, 1) := by decide +kernel
theorem dL_law__913 : decode cL_law_ 913 = .ok (.iload 4, 2) := by decide +kernel
theorem dL_law__915 : decode cL_law_ 915 = .ok (.iconst 1, 1) := by decide +kernel
theorem dL_law__916 : decode cL_law_ 916 = .ok (.iadd, 1) := by decide +kernel
theorem dL_law__917 : decode cL_law_ 917 = .ok (.iaload, 1) := by decide +kernel
theorem dL_law__918 : decode cL_law_ 918 = .ok (.invokevirtual 169, 3) := by decide +kernel
theorem dL_law__921 : decode cL_law_ 921 = .ok (.istore 6, 2) := by decide +kernel
theorem dL_law__923 : decode cL_law_ 923 = .ok (.aload_n 2, 1) := by decide +kernel
theorem dL_law__924 : decode cL_law_ 924 = .ok (.invokevirtual 136, 3) := by decide +kernel
theorem dL_law__927 : decode cL_law_ 927 = .ok (.iload 5, 2) := by decide +kernel
theorem dL_law__929 : decode cL_law_ 929 = .ok (.if_icmp .eq 5, 3) := by decide +kernel
theorem dL_law__932 : decode cL_law_ 932 = .ok (.iconst 0, 1) := by decide +kernel
theorem dL_law__933 : decode cL_law_ 933 = .ok (.ireturn, 1) := by decide +kernel
theorem dL_law__934 : decode cL_law_ 934 = .ok (.iload 5, 2) := by decide +kernel
theorem dL_law__936 : decode cL_law_ 936 = .ok (.ifCond .ne 15, 3) := by decide +kernel
theorem dL_law__939 : decode cL_law_ 939 = .ok (.aload_n 3, 1) := by decide +kernel
theorem dL_law__940 : decode cL_law_ 940 = .ok (.iconst 0, 1) := by decide +kernel
theorem dL_law__941 : decode cL_law_ 941 = .ok (.laload, 1) := by decide +kernel
theorem dL_law__942 : decode cL_law_ 942 = .ok (.iload 6, 2) := by decide +kernel
theorem dL_law__944 : decode cL_law_ 944 = .ok (.i2l, 1) := by decide +kernel
theorem dL_law__945 : decode cL_law_ 945 = .ok (.lcmp, 1) := by decide +kernel
theorem dL_law__946 : decode cL_law_ 946 = .ok (.ifCond .eq 5, 3) := by decide +kernel
theorem dL_law__949 : decode cL_law_ 949 = .ok (.iconst 0, 1) := by decide +kernel
theorem dL_law__950 : decode cL_law_ 950 = .ok (.ireturn, 1) := by decide +kernel
theorem dL_law__951 : decode cL_law_ 951 = .ok (.goto 1589, 3) := by decide +kernel
theorem dL_law__954 : decode cL_law_ 954 = .ok (.aload_n 1, 1) := by decide +kernel
theorem dL_law__955 : decode cL_law_ 955 = .ok (.aload_n 0, 1) := by decide +kernel
theorem dL_law__956 : decode cL_law_ 956 = .ok (.iload 4, 2) := by decide +kernel
theorem dL_law__958 : decode cL_law_ 958 = .ok (.iconst 1, 1) := by decide +kernel
theorem dL_law__959 : decode cL_law_ 959 = .ok (.iadd, 1) := by decide +kernel
theorem dL_law__960 : decode cL_law_ 960 = .ok (.iaload, 1) := by decide +kernel
theorem dL_law__961 : decode cL_law_ 961 = .ok (.aload_n 0, 1) := by decide +kernel
theorem dL_law__962 : decode cL_law_ 962 = .ok (.iload 4, 2) := by decide +kernel
theorem dL_law__964 : decode cL_law_ 964 = .ok (.iconst 2, 1) := by decide +kernel
theorem dL_law__965 : decode cL_law_ 965 = .ok (.iadd, 1) := by decide +kernel
theorem dL_law__966 : decode cL_law_ 966 = .ok (.iaload, 1) := by decide +kernel
theorem dL_law__967 : decode cL_law_ 967 = .ok (.aload_n 3, 1) := by decide +kernel
theorem dL_law__968 : decode cL_law_ 968 = .ok (.invokestatic 170, 3) := by decide +kernel
theorem dL_law__971 : decode cL_law_ 971 = .ok (.istore 5, 2) := by decide +kernel
theorem dL_law__973 : decode cL_law_ 973 = .ok (.aload_n 2, 1) := by decide +kernel
theorem dL_law__974 : decode cL_law_ 974 = .ok (.aload_n 0, 1) := by decide +kernel
theorem dL_law__975 : decode cL_law_ 975 = .ok (.iload 4, 2) := by decide +kernel
theorem dL_law__977 : decode cL_law_ 977 = .ok (.iconst 1, 1) := by decide +kernel
theorem dL_law__978 : decode cL_law_ 978 = .ok (.iadd, 1) := by decide +kernel
theorem dL_law__979 : decode cL_law_ 979 = .ok (.iaload, 1) := by decide +kernel
theorem dL_law__980 : decode cL_law_ 980 = .ok (.aload_n 0, 1) := by decide +kernel
theorem dL_law__981 : decode cL_law_ 981 = .ok (.iload 4, 2) := by decide +kernel
theorem dL_law__983 : decode cL_law_ 983 = .ok (.iconst 2, 1) := by decide +kernel
theorem dL_law__984 : decode cL_law_ 984 = .ok (.iadd, 1) := by decide +kernel
theorem dL_law__985 : decode cL_law_ 985 = .ok (.iaload, 1) := by decide +kernel
theorem dL_law__986 : decode cL_law_ 986 = .ok (.invokevirtual 172, 3) := by decide +kernel
theorem dL_law__989 : decode cL_law_ 989 = .ok (.istore 6, 2) := by decide +kernel
theorem dL_law__991 : decode cL_law_ 991 = .ok (.aload_n 2, 1) := by decide +kernel
theorem dL_law__992 : decode cL_law_ 992 = .ok (.invokevirtual 136, 3) := by decide +kernel
theorem dL_law__995 : decode cL_law_ 995 = .ok (.iload 5, 2) := by decide +kernel
theorem dL_law__997 : decode cL_law_ 997 = .ok (.if_icmp .eq 5, 3) := by decide +kernel
theorem dL_law__1000 : decode cL_law_ 1000 = .ok (.iconst 0, 1) := by decide +kernel
theorem dL_law__1001 : decode cL_law_ 1001 = .ok (.ireturn, 1) := by decide +kernel
theorem dL_law__1002 : decode cL_law_ 1002 = .ok (.iload 5, 2) := by decide +kernel
theorem dL_law__1004 : decode cL_law_ 1004 = .ok (.ifCond .ne 15, 3) := by decide +kernel
theorem dL_law__1007 : decode cL_law_ 1007 = .ok (.aload_n 3, 1) := by decide +kernel
theorem dL_law__1008 : decode cL_law_ 1008 = .ok (.iconst 0, 1) := by decide +kernel
theorem dL_law__1009 : decode cL_law_ 1009 = .ok (.laload, 1) := by decide +kernel
theorem dL_law__1010 : decode cL_law_ 1010 = .ok (.iload 6, 2) := by decide +kernel
theorem dL_law__1012 : decode cL_law_ 1012 = .ok (.i2l, 1) := by decide +kernel
theorem dL_law__1013 : decode cL_law_ 1013 = .ok (.lcmp, 1) := by decide +kernel
theorem dL_law__1014 : decode cL_law_ 1014 = .ok (.ifCond .eq 5, 3) := by decide +kernel
theorem dL_law__1017 : decode cL_law_ 1017 = .ok (.iconst 0, 1) := by decide +kernel
theorem dL_law__1018 : decode cL_law_ 1018 = .ok (.ireturn, 1) := by decide +kernel
theorem dL_law__1019 : decode cL_law_ 1019 = .ok (.goto 1521, 3) := by decide +kernel
theorem dL_law__1022 : decode cL_law_ 1022 = .ok (.aload_n 1, 1) := by decide +kernel
theorem dL_law__1023 : decode cL_law_ 1023 = .ok (.aload_n 0, 1) := by decide +kernel
theorem dL_law__1024 : decode cL_law_ 1024 = .ok (.iload 4, 2) := by decide +kernel
theorem dL_law__1026 : decode cL_law_ 1026 = .ok (.iconst 1, 1) := by decide +kernel
theorem dL_law__1027 : decode cL_law_ 1027 = .ok (.iadd, 1) := by decide +kernel
theorem dL_law__1028 : decode cL_law_ 1028 = .ok (.iaload, 1) := by decide +kernel
theorem dL_law__1029 : decode cL_law_ 1029 = .ok (.aload_n 3, 1) := by decide +kernel
theorem dL_law__1030 : decode cL_law_ 1030 = .ok (.invokestatic 173, 3) := by decide +kernel
theorem dL_law__1033 : decode cL_law_ 1033 = .ok (.istore 5, 2) := by decide +kernel
theorem dL_law__1035 : decode cL_law_ 1035 = .ok (.aload_n 2, 1) := by decide +kernel
theorem dL_law__1036 : decode cL_law_ 1036 = .ok (.aload_n 0, 1) := by decide +kernel
theorem dL_law__1037 : decode cL_law_ 1037 = .ok (.iload 4, 2) := by decide +kernel
theorem dL_law__1039 : decode cL_law_ 1039 = .ok (.iconst 1, 1) := by decide +kernel
theorem dL_law__1040 : decode cL_law_ 1040 = .ok (.iadd, 1) := by decide +kernel
theorem dL_law__1041 : decode cL_law_ 1041 = .ok (.iaload, 1) := by decide +kernel
theorem dL_law__1042 : decode cL_law_ 1042 = .ok (.invokevirtual 175, 3) := by decide +kernel
theorem dL_law__1045 : decode cL_law_ 1045 = .ok (.istore 6, 2) := by decide +kernel
theorem dL_law__1047 : decode cL_law_ 1047 = .ok (.aload_n 2, 1) := by decide +kernel
theorem dL_law__1048 : decode cL_law_ 1048 = .ok (.invokevirtual 136, 3) := by decide +kernel
theorem dL_law__1051 : decode cL_law_ 1051 = .ok (.iload 5, 2) := by decide +kernel
theorem dL_law__1053 : decode cL_law_ 1053 = .ok (.if_icmp .eq 5, 3) := by decide +kernel
theorem dL_law__1056 : decode cL_law_ 1056 = .ok (.iconst 0, 1) := by decide +kernel
theorem dL_law__1057 : decode cL_law_ 1057 = .ok (.ireturn, 1) := by decide +kernel
theorem dL_law__1058 : decode cL_law_ 1058 = .ok (.iload 5, 2) := by decide +kernel
theorem dL_law__1060 : decode cL_law_ 1060 = .ok (.ifCond .ne 15, 3) := by decide +kernel
theorem dL_law__1063 : decode cL_law_ 1063 = .ok (.aload_n 3, 1) := by decide +kernel
theorem dL_law__1064 : decode cL_law_ 1064 = .ok (.iconst 0, 1) := by decide +kernel
theorem dL_law__1065 : decode cL_law_ 1065 = .ok (.laload, 1) := by decide +kernel
theorem dL_law__1066 : decode cL_law_ 1066 = .ok (.iload 6, 2) := by decide +kernel
theorem dL_law__1068 : decode cL_law_ 1068 = .ok (.i2l, 1) := by decide +kernel
theorem dL_law__1069 : decode cL_law_ 1069 = .ok (.lcmp, 1) := by decide +kernel
theorem dL_law__1070 : decode cL_law_ 1070 = .ok (.ifCond .eq 5, 3) := by decide +kernel
theorem dL_law__1073 : decode cL_law_ 1073 = .ok (.iconst 0, 1) := by decide +kernel
theorem dL_law__1074 : decode cL_law_ 1074 = .ok (.ireturn, 1) := by decide +kernel
theorem dL_law__1075 : decode cL_law_ 1075 = .ok (.goto 1465, 3) := by decide +kernel
theorem dL_law__1078 : decode cL_law_ 1078 = .ok (.aload_n 1, 1) := by decide +kernel
theorem dL_law__1079 : decode cL_law_ 1079 = .ok (.aload_n 0, 1) := by decide +kernel
theorem dL_law__1080 : decode cL_law_ 1080 = .ok (.iload 4, 2) := by decide +kernel
theorem dL_law__1082 : decode cL_law_ 1082 = .ok (.iconst 1, 1) := by decide +kernel
theorem dL_law__1083 : decode cL_law_ 1083 = .ok (.iadd, 1) := by decide +kernel
theorem dL_law__1084 : decode cL_law_ 1084 = .ok (.iaload, 1) := by decide +kernel
theorem dL_law__1085 : decode cL_law_ 1085 = .ok (.aload_n 3, 1) := by decide +kernel
theorem dL_law__1086 : decode cL_law_ 1086 = .ok (.invokestatic 176, 3) := by decide +kernel
theorem dL_law__1089 : decode cL_law_ 1089 = .ok (.istore 5, 2) := by decide +kernel
theorem dL_law__1091 : decode cL_law_ 1091 = .ok (.aload_n 2, 1) := by decide +kernel
theorem dL_law__1092 : decode cL_law_ 1092 = .ok (.aload_n 0, 1) := by decide +kernel
theorem dL_law__1093 : decode cL_law_ 1093 = .ok (.iload 4, 2) := by decide +kernel
theorem dL_law__1095 : decode cL_law_ 1095 = .ok (.iconst 1, 1) := by decide +kernel
theorem dL_law__1096 : decode cL_law_ 1096 = .ok (.iadd, 1) := by decide +kernel
theorem dL_law__1097 : decode cL_law_ 1097 = .ok (.iaload, 1) := by decide +kernel
theorem dL_law__1098 : decode cL_law_ 1098 = .ok (.invokevirtual 178, 3) := by decide +kernel
theorem dL_law__1101 : decode cL_law_ 1101 = .ok (.istore 6, 2) := by decide +kernel
theorem dL_law__1103 : decode cL_law_ 1103 = .ok (.aload_n 2, 1) := by decide +kernel
theorem dL_law__1104 : decode cL_law_ 1104 = .ok (.invokevirtual 136, 3) := by decide +kernel
theorem dL_law__1107 : decode cL_law_ 1107 = .ok (.iload 5, 2) := by decide +kernel
theorem dL_law__1109 : decode cL_law_ 1109 = .ok (.if_icmp .eq 5, 3) := by decide +kernel
theorem dL_law__1112 : decode cL_law_ 1112 = .ok (.iconst 0, 1) := by decide +kernel
theorem dL_law__1113 : decode cL_law_ 1113 = .ok (.ireturn, 1) := by decide +kernel
theorem dL_law__1114 : decode cL_law_ 1114 = .ok (.iload 5, 2) := by decide +kernel
theorem dL_law__1116 : decode cL_law_ 1116 = .ok (.ifCond .ne 15, 3) := by decide +kernel
theorem dL_law__1119 : decode cL_law_ 1119 = .ok (.aload_n 3, 1) := by decide +kernel
theorem dL_law__1120 : decode cL_law_ 1120 = .ok (.iconst 0, 1) := by decide +kernel
theorem dL_law__1121 : decode cL_law_ 1121 = .ok (.laload, 1) := by decide +kernel
theorem dL_law__1122 : decode cL_law_ 1122 = .ok (.iload 6, 2) := by decide +kernel
theorem dL_law__1124 : decode cL_law_ 1124 = .ok (.i2l, 1) := by decide +kernel
theorem dL_law__1125 : decode cL_law_ 1125 = .ok (.lcmp, 1) := by decide +kernel
theorem dL_law__1126 : decode cL_law_ 1126 = .ok (.ifCond .eq 5, 3) := by decide +kernel
theorem dL_law__1129 : decode cL_law_ 1129 = .ok (.iconst 0, 1) := by decide +kernel
theorem dL_law__1130 : decode cL_law_ 1130 = .ok (.ireturn, 1) := by decide +kernel
theorem dL_law__1131 : decode cL_law_ 1131 = .ok (.goto 1409, 3) := by decide +kernel
theorem dL_law__1134 : decode cL_law_ 1134 = .ok (.aload_n 1, 1) := by decide +kernel
theorem dL_law__1135 : decode cL_law_ 1135 = .ok (.invokevirtual 179, 3) := by decide +kernel
theorem dL_law__1138 : decode cL_law_ 1138 = .ok (.aload_n 2, 1) := by decide +kernel
theorem dL_law__1139 : decode cL_law_ 1139 = .ok (.invokevirtual 182, 3) := by decide +kernel
theorem dL_law__1142 : decode cL_law_ 1142 = .ok (.if_icmp .eq 1398, 3) := by decide +kernel
theorem dL_law__1145 : decode cL_law_ 1145 = .ok (.iconst 0, 1) := by decide +kernel
theorem dL_law__1146 : decode cL_law_ 1146 = .ok (.ireturn, 1) := by decide +kernel
theorem dL_law__1147 : decode cL_law_ 1147 = .ok (.aload_n 1, 1) := by decide +kernel
theorem dL_law__1148 : decode cL_law_ 1148 = .ok (.invokevirtual 183, 3) := by decide +kernel
theorem dL_law__1151 : decode cL_law_ 1151 = .ok (.aload_n 2, 1) := by decide +kernel
theorem dL_law__1152 : decode cL_law_ 1152 = .ok (.invokevirtual 186, 3) := by decide +kernel
theorem dL_law__1155 : decode cL_law_ 1155 = .ok (.if_icmp .eq 1385, 3) := by decide +kernel
theorem dL_law__1158 : decode cL_law_ 1158 = .ok (.iconst 0, 1) := by decide +kernel
theorem dL_law__1159 : decode cL_law_ 1159 = .ok (.ireturn, 1) := by decide +kernel
theorem dL_law__1160 : decode cL_law_ 1160 = .ok (.aload_n 1, 1) := by decide +kernel
theorem dL_law__1161 : decode cL_law_ 1161 = .ok (.aload_n 0, 1) := by decide +kernel
theorem dL_law__1162 : decode cL_law_ 1162 = .ok (.iload 4, 2) := by decide +kernel
theorem dL_law__1164 : decode cL_law_ 1164 = .ok (.iconst 1, 1) := by decide +kernel
theorem dL_law__1165 : decode cL_law_ 1165 = .ok (.iadd, 1) := by decide +kernel
theorem dL_law__1166 : decode cL_law_ 1166 = .ok (.iaload, 1) := by decide +kernel
theorem dL_law__1167 : decode cL_law_ 1167 = .ok (.aload_n 0, 1) := by decide +kernel
theorem dL_law__1168 : decode cL_law_ 1168 = .ok (.iload 4, 2) := by decide +kernel
theorem dL_law__1170 : decode cL_law_ 1170 = .ok (.iconst 2, 1) := by decide +kernel
theorem dL_law__1171 : decode cL_law_ 1171 = .ok (.iadd, 1) := by decide +kernel
theorem dL_law__1172 : decode cL_law_ 1172 = .ok (.iaload, 1) := by decide +kernel
theorem dL_law__1173 : decode cL_law_ 1173 = .ok (.aload_n 3, 1) := by decide +kernel
theorem dL_law__1174 : decode cL_law_ 1174 = .ok (.invokestatic 187, 3) := by decide +kernel
theorem dL_law__1177 : decode cL_law_ 1177 = .ok (.istore 5, 2) := by decide +kernel
theorem dL_law__1179 : decode cL_law_ 1179 = .ok (.aload_n 2, 1) := by decide +kernel
theorem dL_law__1180 : decode cL_law_ 1180 = .ok (.aload_n 0, 1) := by decide +kernel
theorem dL_law__1181 : decode cL_law_ 1181 = .ok (.iload 4, 2) := by decide +kernel
theorem dL_law__1183 : decode cL_law_ 1183 = .ok (.iconst 1, 1) := by decide +kernel
theorem dL_law__1184 : decode cL_law_ 1184 = .ok (.iadd, 1) := by decide +kernel
theorem dL_law__1185 : decode cL_law_ 1185 = .ok (.iaload, 1) := by decide +kernel
theorem dL_law__1186 : decode cL_law_ 1186 = .ok (.aload_n 0, 1) := by decide +kernel
theorem dL_law__1187 : decode cL_law_ 1187 = .ok (.iload 4, 2) := by decide +kernel
theorem dL_law__1189 : decode cL_law_ 1189 = .ok (.iconst 2, 1) := by decide +kernel
theorem dL_law__1190 : decode cL_law_ 1190 = .ok (.iadd, 1) := by decide +kernel
theorem dL_law__1191 : decode cL_law_ 1191 = .ok (.iaload, 1) := by decide +kernel
theorem dL_law__1192 : decode cL_law_ 1192 = .ok (.invokevirtual 189, 3) := by decide +kernel
theorem dL_law__1195 : decode cL_law_ 1195 = .ok (.istore 6, 2) := by decide +kernel
theorem dL_law__1197 : decode cL_law_ 1197 = .ok (.aload_n 2, 1) := by decide +kernel
theorem dL_law__1198 : decode cL_law_ 1198 = .ok (.invokevirtual 136, 3) := by decide +kernel
theorem dL_law__1201 : decode cL_law_ 1201 = .ok (.iload 5, 2) := by decide +kernel
theorem dL_law__1203 : decode cL_law_ 1203 = .ok (.if_icmp .eq 5, 3) := by decide +kernel
theorem dL_law__1206 : decode cL_law_ 1206 = .ok (.iconst 0, 1) := by decide +kernel
theorem dL_law__1207 : decode cL_law_ 1207 = .ok (.ireturn, 1) := by decide +kernel
theorem dL_law__1208 : decode cL_law_ 1208 = .ok (.iload 5, 2) := by decide +kernel
theorem dL_law__1210 : decode cL_law_ 1210 = .ok (.ifCond .ne 15, 3) := by decide +kernel
theorem dL_law__1213 : decode cL_law_ 1213 = .ok (.aload_n 3, 1) := by decide +kernel
theorem dL_law__1214 : decode cL_law_ 1214 = .ok (.iconst 0, 1) := by decide +kernel
theorem dL_law__1215 : decode cL_law_ 1215 = .ok (.laload, 1) := by decide +kernel
theorem dL_law__1216 : decode cL_law_ 1216 = .ok (.iload 6, 2) := by decide +kernel
theorem dL_law__1218 : decode cL_law_ 1218 = .ok (.i2l, 1) := by decide +kernel
theorem dL_law__1219 : decode cL_law_ 1219 = .ok (.lcmp, 1) := by decide +kernel
theorem dL_law__1220 : decode cL_law_ 1220 = .ok (.ifCond .eq 5, 3) := by decide +kernel
theorem dL_law__1223 : decode cL_law_ 1223 = .ok (.iconst 0, 1) := by decide +kernel
theorem dL_law__1224 : decode cL_law_ 1224 = .ok (.ireturn, 1) := by decide +kernel
theorem dL_law__1225 : decode cL_law_ 1225 = .ok (.goto 1315, 3) := by decide +kernel
theorem dL_law__1228 : decode cL_law_ 1228 = .ok (.aload_n 1, 1) := by decide +kernel
theorem dL_law__1229 : decode cL_law_ 1229 = .ok (.aload_n 0, 1) := by decide +kernel
theorem dL_law__1230 : decode cL_law_ 1230 = .ok (.iload 4, 2) := by decide +kernel
theorem dL_law__1232 : decode cL_law_ 1232 = .ok (.iconst 1, 1) := by decide +kernel
theorem dL_law__1233 : decode cL_law_ 1233 = .ok (.iadd, 1) := by decide +kernel
theorem dL_law__1234 : decode cL_law_ 1234 = .ok (.iaload, 1) := by decide +kernel
theorem dL_law__1235 : decode cL_law_ 1235 = .ok (.aload_n 3, 1) := by decide +kernel
theorem dL_law__1236 : decode cL_law_ 1236 = .ok (.invokestatic 190, 3) := by decide +kernel
theorem dL_law__1239 : decode cL_law_ 1239 = .ok (.istore 5, 2) := by decide +kernel
theorem dL_law__1241 : decode cL_law_ 1241 = .ok (.aload_n 2, 1) := by decide +kernel
theorem dL_law__1242 : decode cL_law_ 1242 = .ok (.aload_n 0, 1) := by decide +kernel
theorem dL_law__1243 : decode cL_law_ 1243 = .ok (.iload 4, 2) := by decide +kernel
theorem dL_law__1245 : decode cL_law_ 1245 = .ok (.iconst 1, 1) := by decide +kernel
theorem dL_law__1246 : decode cL_law_ 1246 = .ok (.iadd, 1) := by decide +kernel
theorem dL_law__1247 : decode cL_law_ 1247 = .ok (.iaload, 1) := by decide +kernel
theorem dL_law__1248 : decode cL_law_ 1248 = .ok (.invokevirtual 192, 3) := by decide +kernel
theorem dL_law__1251 : decode cL_law_ 1251 = .ok (.istore 6, 2) := by decide +kernel
theorem dL_law__1253 : decode cL_law_ 1253 = .ok (.aload_n 2, 1) := by decide +kernel
theorem dL_law__1254 : decode cL_law_ 1254 = .ok (.invokevirtual 136, 3) := by decide +kernel
theorem dL_law__1257 : decode cL_law_ 1257 = .ok (.iload 5, 2) := by decide +kernel
theorem dL_law__1259 : decode cL_law_ 1259 = .ok (.if_icmp .eq 5, 3) := by decide +kernel
theorem dL_law__1262 : decode cL_law_ 1262 = .ok (.iconst 0, 1) := by decide +kernel
theorem dL_law__1263 : decode cL_law_ 1263 = .ok (.ireturn, 1) := by decide +kernel
theorem dL_law__1264 : decode cL_law_ 1264 = .ok (.iload 5, 2) := by decide +kernel
theorem dL_law__1266 : decode cL_law_ 1266 = .ok (.ifCond .ne 15, 3) := by decide +kernel
theorem dL_law__1269 : decode cL_law_ 1269 = .ok (.aload_n 3, 1) := by decide +kernel
theorem dL_law__1270 : decode cL_law_ 1270 = .ok (.iconst 0, 1) := by decide +kernel
theorem dL_law__1271 : decode cL_law_ 1271 = .ok (.laload, 1) := by decide +kernel
theorem dL_law__1272 : decode cL_law_ 1272 = .ok (.iload 6, 2) := by decide +kernel
theorem dL_law__1274 : decode cL_law_ 1274 = .ok (.i2l, 1) := by decide +kernel
theorem dL_law__1275 : decode cL_law_ 1275 = .ok (.lcmp, 1) := by decide +kernel
theorem dL_law__1276 : decode cL_law_ 1276 = .ok (.ifCond .eq 5, 3) := by decide +kernel
theorem dL_law__1279 : decode cL_law_ 1279 = .ok (.iconst 0, 1) := by decide +kernel
theorem dL_law__1280 : decode cL_law_ 1280 = .ok (.ireturn, 1) := by decide +kernel
theorem dL_law__1281 : decode cL_law_ 1281 = .ok (.goto 1259, 3) := by decide +kernel
theorem dL_law__1284 : decode cL_law_ 1284 = .ok (.aload_n 1, 1) := by decide +kernel
theorem dL_law__1285 : decode cL_law_ 1285 = .ok (.aload_n 0, 1) := by decide +kernel
theorem dL_law__1286 : decode cL_law_ 1286 = .ok (.iload 4, 2) := by decide +kernel
theorem dL_law__1288 : decode cL_law_ 1288 = .ok (.iconst 1, 1) := by decide +kernel
theorem dL_law__1289 : decode cL_law_ 1289 = .ok (.iadd, 1) := by decide +kernel
theorem dL_law__1290 : decode cL_law_ 1290 = .ok (.iaload, 1) := by decide +kernel
theorem dL_law__1291 : decode cL_law_ 1291 = .ok (.aload_n 0, 1) := by decide +kernel
theorem dL_law__1292 : decode cL_law_ 1292 = .ok (.iload 4, 2) := by decide +kernel
theorem dL_law__1294 : decode cL_law_ 1294 = .ok (.iconst 2, 1) := by decide +kernel
theorem dL_law__1295 : decode cL_law_ 1295 = .ok (.iadd, 1) := by decide +kernel
theorem dL_law__1296 : decode cL_law_ 1296 = .ok (.iaload, 1) := by decide +kernel
theorem dL_law__1297 : decode cL_law_ 1297 = .ok (.aload_n 3, 1) := by decide +kernel
theorem dL_law__1298 : decode cL_law_ 1298 = .ok (.invokestatic 193, 3) := by decide +kernel
theorem dL_law__1301 : decode cL_law_ 1301 = .ok (.istore 5, 2) := by decide +kernel
theorem dL_law__1303 : decode cL_law_ 1303 = .ok (.aload_n 2, 1) := by decide +kernel
theorem dL_law__1304 : decode cL_law_ 1304 = .ok (.aload_n 0, 1) := by decide +kernel
theorem dL_law__1305 : decode cL_law_ 1305 = .ok (.iload 4, 2) := by decide +kernel
theorem dL_law__1307 : decode cL_law_ 1307 = .ok (.iconst 1, 1) := by decide +kernel
theorem dL_law__1308 : decode cL_law_ 1308 = .ok (.iadd, 1) := by decide +kernel
theorem dL_law__1309 : decode cL_law_ 1309 = .ok (.iaload, 1) := by decide +kernel
theorem dL_law__1310 : decode cL_law_ 1310 = .ok (.aload_n 0, 1) := by decide +kernel
theorem dL_law__1311 : decode cL_law_ 1311 = .ok (.iload 4, 2) := by decide +kernel
theorem dL_law__1313 : decode cL_law_ 1313 = .ok (.iconst 2, 1) := by decide +kernel
theorem dL_law__1314 : decode cL_law_ 1314 = .ok (.iadd, 1) := by decide +kernel
theorem dL_law__1315 : decode cL_law_ 1315 = .ok (.iaload, 1) := by decide +kernel
theorem dL_law__1316 : decode cL_law_ 1316 = .ok (.invokevirtual 195, 3) := by decide +kernel
theorem dL_law__1319 : decode cL_law_ 1319 = .ok (.istore 6, 2) := by decide +kernel
theorem dL_law__1321 : decode cL_law_ 1321 = .ok (.aload_n 2, 1) := by decide +kernel
theorem dL_law__1322 : decode cL_law_ 1322 = .ok (.invokevirtual 136, 3) := by decide +kernel
theorem dL_law__1325 : decode cL_law_ 1325 = .ok (.iload 5, 2) := by decide +kernel
theorem dL_law__1327 : decode cL_law_ 1327 = .ok (.if_icmp .eq 5, 3) := by decide +kernel
theorem dL_law__1330 : decode cL_law_ 1330 = .ok (.iconst 0, 1) := by decide +kernel
theorem dL_law__1331 : decode cL_law_ 1331 = .ok (.ireturn, 1) := by decide +kernel
theorem dL_law__1332 : decode cL_law_ 1332 = .ok (.iload 5, 2) := by decide +kernel
theorem dL_law__1334 : decode cL_law_ 1334 = .ok (.ifCond .ne 15, 3) := by decide +kernel
theorem dL_law__1337 : decode cL_law_ 1337 = .ok (.aload_n 3, 1) := by decide +kernel
theorem dL_law__1338 : decode cL_law_ 1338 = .ok (.iconst 0, 1) := by decide +kernel
theorem dL_law__1339 : decode cL_law_ 1339 = .ok (.laload, 1) := by decide +kernel
theorem dL_law__1340 : decode cL_law_ 1340 = .ok (.iload 6, 2) := by decide +kernel
theorem dL_law__1342 : decode cL_law_ 1342 = .ok (.i2l, 1) := by decide +kernel
theorem dL_law__1343 : decode cL_law_ 1343 = .ok (.lcmp, 1) := by decide +kernel
theorem dL_law__1344 : decode cL_law_ 1344 = .ok (.ifCond .eq 5, 3) := by decide +kernel
theorem dL_law__1347 : decode cL_law_ 1347 = .ok (.iconst 0, 1) := by decide +kernel
theorem dL_law__1348 : decode cL_law_ 1348 = .ok (.ireturn, 1) := by decide +kernel
theorem dL_law__1349 : decode cL_law_ 1349 = .ok (.goto 1191, 3) := by decide +kernel
theorem dL_law__1352 : decode cL_law_ 1352 = .ok (.aload_n 1, 1) := by decide +kernel
theorem dL_law__1353 : decode cL_law_ 1353 = .ok (.aload_n 0, 1) := by decide +kernel
theorem dL_law__1354 : decode cL_law_ 1354 = .ok (.iload 4, 2) := by decide +kernel
theorem dL_law__1356 : decode cL_law_ 1356 = .ok (.iconst 1, 1) := by decide +kernel
theorem dL_law__1357 : decode cL_law_ 1357 = .ok (.iadd, 1) := by decide +kernel
theorem dL_law__1358 : decode cL_law_ 1358 = .ok (.iaload, 1) := by decide +kernel
theorem dL_law__1359 : decode cL_law_ 1359 = .ok (.aload_n 3, 1) := by decide +kernel
theorem dL_law__1360 : decode cL_law_ 1360 = .ok (.invokestatic 196, 3) := by decide +kernel
theorem dL_law__1363 : decode cL_law_ 1363 = .ok (.istore 5, 2) := by decide +kernel
theorem dL_law__1365 : decode cL_law_ 1365 = .ok (.aload_n 2, 1) := by decide +kernel
theorem dL_law__1366 : decode cL_law_ 1366 = .ok (.aload_n 0, 1) := by decide +kernel
theorem dL_law__1367 : decode cL_law_ 1367 = .ok (.iload 4, 2) := by decide +kernel
theorem dL_law__1369 : decode cL_law_ 1369 = .ok (.iconst 1, 1) := by decide +kernel
theorem dL_law__1370 : decode cL_law_ 1370 = .ok (.iadd, 1) := by decide +kernel
theorem dL_law__1371 : decode cL_law_ 1371 = .ok (.iaload, 1) := by decide +kernel
theorem dL_law__1372 : decode cL_law_ 1372 = .ok (.invokevirtual 198, 3) := by decide +kernel
theorem dL_law__1375 : decode cL_law_ 1375 = .ok (.istore 6, 2) := by decide +kernel
theorem dL_law__1377 : decode cL_law_ 1377 = .ok (.aload_n 2, 1) := by decide +kernel
theorem dL_law__1378 : decode cL_law_ 1378 = .ok (.invokevirtual 136, 3) := by decide +kernel
theorem dL_law__1381 : decode cL_law_ 1381 = .ok (.iload 5, 2) := by decide +kernel
theorem dL_law__1383 : decode cL_law_ 1383 = .ok (.if_icmp .eq 5, 3) := by decide +kernel
theorem dL_law__1386 : decode cL_law_ 1386 = .ok (.iconst 0, 1) := by decide +kernel
theorem dL_law__1387 : decode cL_law_ 1387 = .ok (.ireturn, 1) := by decide +kernel
theorem dL_law__1388 : decode cL_law_ 1388 = .ok (.iload 5, 2) := by decide +kernel
theorem dL_law__1390 : decode cL_law_ 1390 = .ok (.ifCond .ne 15, 3) := by decide +kernel
theorem dL_law__1393 : decode cL_law_ 1393 = .ok (.aload_n 3, 1) := by decide +kernel
theorem dL_law__1394 : decode cL_law_ 1394 = .ok (.iconst 0, 1) := by decide +kernel
theorem dL_law__1395 : decode cL_law_ 1395 = .ok (.laload, 1) := by decide +kernel
theorem dL_law__1396 : decode cL_law_ 1396 = .ok (.iload 6, 2) := by decide +kernel
theorem dL_law__1398 : decode cL_law_ 1398 = .ok (.i2l, 1) := by decide +kernel
theorem dL_law__1399 : decode cL_law_ 1399 = .ok (.lcmp, 1) := by decide +kernel
theorem dL_law__1400 : decode cL_law_ 1400 = .ok (.ifCond .eq 5, 3) := by decide +kernel
theorem dL_law__1403 : decode cL_law_ 1403 = .ok (.iconst 0, 1) := by decide +kernel
theorem dL_law__1404 : decode cL_law_ 1404 = .ok (.ireturn, 1) := by decide +kernel
theorem dL_law__1405 : decode cL_law_ 1405 = .ok (.goto 1135, 3) := by decide +kernel
theorem dL_law__1408 : decode cL_law_ 1408 = .ok (.aload_n 1, 1) := by decide +kernel
theorem dL_law__1409 : decode cL_law_ 1409 = .ok (.aload_n 0, 1) := by decide +kernel
theorem dL_law__1410 : decode cL_law_ 1410 = .ok (.iload 4, 2) := by decide +kernel
theorem dL_law__1412 : decode cL_law_ 1412 = .ok (.iconst 1, 1) := by decide +kernel
theorem dL_law__1413 : decode cL_law_ 1413 = .ok (.iadd, 1) := by decide +kernel
theorem dL_law__1414 : decode cL_law_ 1414 = .ok (.iaload, 1) := by decide +kernel
theorem dL_law__1415 : decode cL_law_ 1415 = .ok (.aload_n 0, 1) := by decide +kernel
theorem dL_law__1416 : decode cL_law_ 1416 = .ok (.iload 4, 2) := by decide +kernel
theorem dL_law__1418 : decode cL_law_ 1418 = .ok (.iconst 2, 1) := by decide +kernel
theorem dL_law__1419 : decode cL_law_ 1419 = .ok (.iadd, 1) := by decide +kernel
theorem dL_law__1420 : decode cL_law_ 1420 = .ok (.iaload, 1) := by decide +kernel
theorem dL_law__1421 : decode cL_law_ 1421 = .ok (.aload_n 3, 1) := by decide +kernel
theorem dL_law__1422 : decode cL_law_ 1422 = .ok (.invokestatic 199, 3) := by decide +kernel
theorem dL_law__1425 : decode cL_law_ 1425 = .ok (.istore 5, 2) := by decide +kernel
theorem dL_law__1427 : decode cL_law_ 1427 = .ok (.aload_n 2, 1) := by decide +kernel
theorem dL_law__1428 : decode cL_law_ 1428 = .ok (.aload_n 0, 1) := by decide +kernel
theorem dL_law__1429 : decode cL_law_ 1429 = .ok (.iload 4, 2) := by decide +kernel
theorem dL_law__1431 : decode cL_law_ 1431 = .ok (.iconst 1, 1) := by decide +kernel
theorem dL_law__1432 : decode cL_law_ 1432 = .ok (.iadd, 1) := by decide +kernel
theorem dL_law__1433 : decode cL_law_ 1433 = .ok (.iaload, 1) := by decide +kernel
theorem dL_law__1434 : decode cL_law_ 1434 = .ok (.aload_n 0, 1) := by decide +kernel
theorem dL_law__1435 : decode cL_law_ 1435 = .ok (.iload 4, 2) := by decide +kernel
theorem dL_law__1437 : decode cL_law_ 1437 = .ok (.iconst 2, 1) := by decide +kernel
theorem dL_law__1438 : decode cL_law_ 1438 = .ok (.iadd, 1) := by decide +kernel
theorem dL_law__1439 : decode cL_law_ 1439 = .ok (.iaload, 1) := by decide +kernel
theorem dL_law__1440 : decode cL_law_ 1440 = .ok (.invokevirtual 201, 3) := by decide +kernel
theorem dL_law__1443 : decode cL_law_ 1443 = .ok (.istore 6, 2) := by decide +kernel
theorem dL_law__1445 : decode cL_law_ 1445 = .ok (.aload_n 2, 1) := by decide +kernel
theorem dL_law__1446 : decode cL_law_ 1446 = .ok (.invokevirtual 136, 3) := by decide +kernel
theorem dL_law__1449 : decode cL_law_ 1449 = .ok (.iload 5, 2) := by decide +kernel
theorem dL_law__1451 : decode cL_law_ 1451 = .ok (.if_icmp .eq 5, 3) := by decide +kernel
theorem dL_law__1454 : decode cL_law_ 1454 = .ok (.iconst 0, 1) := by decide +kernel
theorem dL_law__1455 : decode cL_law_ 1455 = .ok (.ireturn, 1) := by decide +kernel
theorem dL_law__1456 : decode cL_law_ 1456 = .ok (.iload 5, 2) := by decide +kernel
theorem dL_law__1458 : decode cL_law_ 1458 = .ok (.ifCond .ne 15, 3) := by decide +kernel
theorem dL_law__1461 : decode cL_law_ 1461 = .ok (.aload_n 3, 1) := by decide +kernel
theorem dL_law__1462 : decode cL_law_ 1462 = .ok (.iconst 0, 1) := by decide +kernel
theorem dL_law__1463 : decode cL_law_ 1463 = .ok (.laload, 1) := by decide +kernel
theorem dL_law__1464 : decode cL_law_ 1464 = .ok (.iload 6, 2) := by decide +kernel
theorem dL_law__1466 : decode cL_law_ 1466 = .ok (.i2l, 1) := by decide +kernel
theorem dL_law__1467 : decode cL_law_ 1467 = .ok (.lcmp, 1) := by decide +kernel
theorem dL_law__1468 : decode cL_law_ 1468 = .ok (.ifCond .eq 5, 3) := by decide +kernel
theorem dL_law__1471 : decode cL_law_ 1471 = .ok (.iconst 0, 1) := by decide +kernel
theorem dL_law__1472 : decode cL_law_ 1472 = .ok (.ireturn, 1) := by decide +kernel
theorem dL_law__1473 : decode cL_law_ 1473 = .ok (.goto 1067, 3) := by decide +kernel
theorem dL_law__1476 : decode cL_law_ 1476 = .ok (.aload_n 1, 1) := by decide +kernel
theorem dL_law__1477 : decode cL_law_ 1477 = .ok (.aload_n 0, 1) := by decide +kernel
theorem dL_law__1478 : decode cL_law_ 1478 = .ok (.iload 4, 2) := by decide +kernel
theorem dL_law__1480 : decode cL_law_ 1480 = .ok (.iconst 1, 1) := by decide +kernel
theorem dL_law__1481 : decode cL_law_ 1481 = .ok (.iadd, 1) := by decide +kernel
theorem dL_law__1482 : decode cL_law_ 1482 = .ok (.iaload, 1) := by decide +kernel
theorem dL_law__1483 : decode cL_law_ 1483 = .ok (.aload_n 0, 1) := by decide +kernel
theorem dL_law__1484 : decode cL_law_ 1484 = .ok (.iload 4, 2) := by decide +kernel
theorem dL_law__1486 : decode cL_law_ 1486 = .ok (.iconst 2, 1) := by decide +kernel
theorem dL_law__1487 : decode cL_law_ 1487 = .ok (.iadd, 1) := by decide +kernel
theorem dL_law__1488 : decode cL_law_ 1488 = .ok (.iaload, 1) := by decide +kernel
theorem dL_law__1489 : decode cL_law_ 1489 = .ok (.aload_n 3, 1) := by decide +kernel
theorem dL_law__1490 : decode cL_law_ 1490 = .ok (.invokestatic 202, 3) := by decide +kernel
theorem dL_law__1493 : decode cL_law_ 1493 = .ok (.istore 5, 2) := by decide +kernel
theorem dL_law__1495 : decode cL_law_ 1495 = .ok (.aload_n 2, 1) := by decide +kernel
theorem dL_law__1496 : decode cL_law_ 1496 = .ok (.aload_n 0, 1) := by decide +kernel
theorem dL_law__1497 : decode cL_law_ 1497 = .ok (.iload 4, 2) := by decide +kernel
theorem dL_law__1499 : decode cL_law_ 1499 = .ok (.iconst 1, 1) := by decide +kernel
theorem dL_law__1500 : decode cL_law_ 1500 = .ok (.iadd, 1) := by decide +kernel
theorem dL_law__1501 : decode cL_law_ 1501 = .ok (.iaload, 1) := by decide +kernel
theorem dL_law__1502 : decode cL_law_ 1502 = .ok (.aload_n 0, 1) := by decide +kernel
theorem dL_law__1503 : decode cL_law_ 1503 = .ok (.iload 4, 2) := by decide +kernel
theorem dL_law__1505 : decode cL_law_ 1505 = .ok (.iconst 2, 1) := by decide +kernel
theorem dL_law__1506 : decode cL_law_ 1506 = .ok (.iadd, 1) := by decide +kernel
theorem dL_law__1507 : decode cL_law_ 1507 = .ok (.iaload, 1) := by decide +kernel
theorem dL_law__1508 : decode cL_law_ 1508 = .ok (.invokevirtual 204, 3) := by decide +kernel
theorem dL_law__1511 : decode cL_law_ 1511 = .ok (.istore 6, 2) := by decide +kernel
theorem dL_law__1513 : decode cL_law_ 1513 = .ok (.aload_n 2, 1) := by decide +kernel
theorem dL_law__1514 : decode cL_law_ 1514 = .ok (.invokevirtual 136, 3) := by decide +kernel
theorem dL_law__1517 : decode cL_law_ 1517 = .ok (.iload 5, 2) := by decide +kernel
theorem dL_law__1519 : decode cL_law_ 1519 = .ok (.if_icmp .eq 5, 3) := by decide +kernel
theorem dL_law__1522 : decode cL_law_ 1522 = .ok (.iconst 0, 1) := by decide +kernel
theorem dL_law__1523 : decode cL_law_ 1523 = .ok (.ireturn, 1) := by decide +kernel
theorem dL_law__1524 : decode cL_law_ 1524 = .ok (.iload 5, 2) := by decide +kernel
theorem dL_law__1526 : decode cL_law_ 1526 = .ok (.ifCond .ne 15, 3) := by decide +kernel
theorem dL_law__1529 : decode cL_law_ 1529 = .ok (.aload_n 3, 1) := by decide +kernel
theorem dL_law__1530 : decode cL_law_ 1530 = .ok (.iconst 0, 1) := by decide +kernel
theorem dL_law__1531 : decode cL_law_ 1531 = .ok (.laload, 1) := by decide +kernel
theorem dL_law__1532 : decode cL_law_ 1532 = .ok (.iload 6, 2) := by decide +kernel
theorem dL_law__1534 : decode cL_law_ 1534 = .ok (.i2l, 1) := by decide +kernel
theorem dL_law__1535 : decode cL_law_ 1535 = .ok (.lcmp, 1) := by decide +kernel
theorem dL_law__1536 : decode cL_law_ 1536 = .ok (.ifCond .eq 5, 3) := by decide +kernel
theorem dL_law__1539 : decode cL_law_ 1539 = .ok (.iconst 0, 1) := by decide +kernel
theorem dL_law__1540 : decode cL_law_ 1540 = .ok (.ireturn, 1) := by decide +kernel
theorem dL_law__1541 : decode cL_law_ 1541 = .ok (.goto 999, 3) := by decide +kernel
theorem dL_law__1544 : decode cL_law_ 1544 = .ok (.aload_n 1, 1) := by decide +kernel
theorem dL_law__1545 : decode cL_law_ 1545 = .ok (.aload_n 0, 1) := by decide +kernel
theorem dL_law__1546 : decode cL_law_ 1546 = .ok (.iload 4, 2) := by decide +kernel
theorem dL_law__1548 : decode cL_law_ 1548 = .ok (.iconst 1, 1) := by decide +kernel
theorem dL_law__1549 : decode cL_law_ 1549 = .ok (.iadd, 1) := by decide +kernel
theorem dL_law__1550 : decode cL_law_ 1550 = .ok (.iaload, 1) := by decide +kernel
theorem dL_law__1551 : decode cL_law_ 1551 = .ok (.aload_n 0, 1) := by decide +kernel
theorem dL_law__1552 : decode cL_law_ 1552 = .ok (.iload 4, 2) := by decide +kernel
theorem dL_law__1554 : decode cL_law_ 1554 = .ok (.iconst 2, 1) := by decide +kernel
theorem dL_law__1555 : decode cL_law_ 1555 = .ok (.iadd, 1) := by decide +kernel
theorem dL_law__1556 : decode cL_law_ 1556 = .ok (.iaload, 1) := by decide +kernel
theorem dL_law__1557 : decode cL_law_ 1557 = .ok (.aload_n 3, 1) := by decide +kernel
theorem dL_law__1558 : decode cL_law_ 1558 = .ok (.invokestatic 205, 3) := by decide +kernel
theorem dL_law__1561 : decode cL_law_ 1561 = .ok (.istore 5, 2) := by decide +kernel
theorem dL_law__1563 : decode cL_law_ 1563 = .ok (.aload_n 2, 1) := by decide +kernel
theorem dL_law__1564 : decode cL_law_ 1564 = .ok (.aload_n 0, 1) := by decide +kernel
theorem dL_law__1565 : decode cL_law_ 1565 = .ok (.iload 4, 2) := by decide +kernel
theorem dL_law__1567 : decode cL_law_ 1567 = .ok (.iconst 1, 1) := by decide +kernel
theorem dL_law__1568 : decode cL_law_ 1568 = .ok (.iadd, 1) := by decide +kernel
theorem dL_law__1569 : decode cL_law_ 1569 = .ok (.iaload, 1) := by decide +kernel
theorem dL_law__1570 : decode cL_law_ 1570 = .ok (.aload_n 0, 1) := by decide +kernel
theorem dL_law__1571 : decode cL_law_ 1571 = .ok (.iload 4, 2) := by decide +kernel
theorem dL_law__1573 : decode cL_law_ 1573 = .ok (.iconst 2, 1) := by decide +kernel
theorem dL_law__1574 : decode cL_law_ 1574 = .ok (.iadd, 1) := by decide +kernel
theorem dL_law__1575 : decode cL_law_ 1575 = .ok (.iaload, 1) := by decide +kernel
theorem dL_law__1576 : decode cL_law_ 1576 = .ok (.invokevirtual 207, 3) := by decide +kernel
theorem dL_law__1579 : decode cL_law_ 1579 = .ok (.istore 6, 2) := by decide +kernel
theorem dL_law__1581 : decode cL_law_ 1581 = .ok (.aload_n 2, 1) := by decide +kernel
theorem dL_law__1582 : decode cL_law_ 1582 = .ok (.invokevirtual 136, 3) := by decide +kernel
theorem dL_law__1585 : decode cL_law_ 1585 = .ok (.iload 5, 2) := by decide +kernel
theorem dL_law__1587 : decode cL_law_ 1587 = .ok (.if_icmp .eq 5, 3) := by decide +kernel
theorem dL_law__1590 : decode cL_law_ 1590 = .ok (.iconst 0, 1) := by decide +kernel
theorem dL_law__1591 : decode cL_law_ 1591 = .ok (.ireturn, 1) := by decide +kernel
theorem dL_law__1592 : decode cL_law_ 1592 = .ok (.iload 5, 2) := by decide +kernel
theorem dL_law__1594 : decode cL_law_ 1594 = .ok (.ifCond .ne 15, 3) := by decide +kernel
theorem dL_law__1597 : decode cL_law_ 1597 = .ok (.aload_n 3, 1) := by decide +kernel
theorem dL_law__1598 : decode cL_law_ 1598 = .ok (.iconst 0, 1) := by decide +kernel
theorem dL_law__1599 : decode cL_law_ 1599 = .ok (.laload, 1) := by decide +kernel
theorem dL_law__1600 : decode cL_law_ 1600 = .ok (.iload 6, 2) := by decide +kernel
theorem dL_law__1602 : decode cL_law_ 1602 = .ok (.i2l, 1) := by decide +kernel
theorem dL_law__1603 : decode cL_law_ 1603 = .ok (.lcmp, 1) := by decide +kernel
theorem dL_law__1604 : decode cL_law_ 1604 = .ok (.ifCond .eq 5, 3) := by decide +kernel
theorem dL_law__1607 : decode cL_law_ 1607 = .ok (.iconst 0, 1) := by decide +kernel
theorem dL_law__1608 : decode cL_law_ 1608 = .ok (.ireturn, 1) := by decide +kernel
theorem dL_law__1609 : decode cL_law_ 1609 = .ok (.goto 931, 3) := by decide +kernel
theorem dL_law__1612 : decode cL_law_ 1612 = .ok (.aload_n 1, 1) := by decide +kernel
theorem dL_law__1613 : decode cL_law_ 1613 = .ok (.aload_n 0, 1) := by decide +kernel
theorem dL_law__1614 : decode cL_law_ 1614 = .ok (.iload 4, 2) := by decide +kernel
theorem dL_law__1616 : decode cL_law_ 1616 = .ok (.iconst 1, 1) := by decide +kernel
theorem dL_law__1617 : decode cL_law_ 1617 = .ok (.iadd, 1) := by decide +kernel
theorem dL_law__1618 : decode cL_law_ 1618 = .ok (.iaload, 1) := by decide +kernel
theorem dL_law__1619 : decode cL_law_ 1619 = .ok (.aload_n 0, 1) := by decide +kernel
theorem dL_law__1620 : decode cL_law_ 1620 = .ok (.iload 4, 2) := by decide +kernel
theorem dL_law__1622 : decode cL_law_ 1622 = .ok (.iconst 2, 1) := by decide +kernel
theorem dL_law__1623 : decode cL_law_ 1623 = .ok (.iadd, 1) := by decide +kernel
theorem dL_law__1624 : decode cL_law_ 1624 = .ok (.iaload, 1) := by decide +kernel
theorem dL_law__1625 : decode cL_law_ 1625 = .ok (.aload_n 0, 1) := by decide +kernel
theorem dL_law__1626 : decode cL_law_ 1626 = .ok (.iload 4, 2) := by decide +kernel
theorem dL_law__1628 : decode cL_law_ 1628 = .ok (.iconst 3, 1) := by decide +kernel
theorem dL_law__1629 : decode cL_law_ 1629 = .ok (.iadd, 1) := by decide +kernel
theorem dL_law__1630 : decode cL_law_ 1630 = .ok (.iaload, 1) := by decide +kernel
theorem dL_law__1631 : decode cL_law_ 1631 = .ok (.aload_n 0, 1) := by decide +kernel
theorem dL_law__1632 : decode cL_law_ 1632 = .ok (.iload 4, 2) := by decide +kernel
theorem dL_law__1634 : decode cL_law_ 1634 = .ok (.iconst 4, 1) := by decide +kernel
theorem dL_law__1635 : decode cL_law_ 1635 = .ok (.iadd, 1) := by decide +kernel
theorem dL_law__1636 : decode cL_law_ 1636 = .ok (.iaload, 1) := by decide +kernel
theorem dL_law__1637 : decode cL_law_ 1637 = .ok (.aload_n 3, 1) := by decide +kernel
theorem dL_law__1638 : decode cL_law_ 1638 = .ok (.invokestatic 208, 3) := by decide +kernel
theorem dL_law__1641 : decode cL_law_ 1641 = .ok (.istore 5, 2) := by decide +kernel
theorem dL_law__1643 : decode cL_law_ 1643 = .ok (.aload_n 2, 1) := by decide +kernel
theorem dL_law__1644 : decode cL_law_ 1644 = .ok (.aload_n 0, 1) := by decide +kernel
theorem dL_law__1645 : decode cL_law_ 1645 = .ok (.iload 4, 2) := by decide +kernel
theorem dL_law__1647 : decode cL_law_ 1647 = .ok (.iconst 1, 1) := by decide +kernel
theorem dL_law__1648 : decode cL_law_ 1648 = .ok (.iadd, 1) := by decide +kernel
theorem dL_law__1649 : decode cL_law_ 1649 = .ok (.iaload, 1) := by decide +kernel
theorem dL_law__1650 : decode cL_law_ 1650 = .ok (.aload_n 0, 1) := by decide +kernel
theorem dL_law__1651 : decode cL_law_ 1651 = .ok (.iload 4, 2) := by decide +kernel
theorem dL_law__1653 : decode cL_law_ 1653 = .ok (.iconst 2, 1) := by decide +kernel
theorem dL_law__1654 : decode cL_law_ 1654 = .ok (.iadd, 1) := by decide +kernel
theorem dL_law__1655 : decode cL_law_ 1655 = .ok (.iaload, 1) := by decide +kernel
theorem dL_law__1656 : decode cL_law_ 1656 = .ok (.aload_n 0, 1) := by decide +kernel
theorem dL_law__1657 : decode cL_law_ 1657 = .ok (.iload 4, 2) := by decide +kernel
theorem dL_law__1659 : decode cL_law_ 1659 = .ok (.iconst 3, 1) := by decide +kernel
theorem dL_law__1660 : decode cL_law_ 1660 = .ok (.iadd, 1) := by decide +kernel
theorem dL_law__1661 : decode cL_law_ 1661 = .ok (.iaload, 1) := by decide +kernel
theorem dL_law__1662 : decode cL_law_ 1662 = .ok (.aload_n 0, 1) := by decide +kernel
theorem dL_law__1663 : decode cL_law_ 1663 = .ok (.iload 4, 2) := by decide +kernel
theorem dL_law__1665 : decode cL_law_ 1665 = .ok (.iconst 4, 1) := by decide +kernel
theorem dL_law__1666 : decode cL_law_ 1666 = .ok (.iadd, 1) := by decide +kernel
theorem dL_law__1667 : decode cL_law_ 1667 = .ok (.iaload, 1) := by decide +kernel
theorem dL_law__1668 : decode cL_law_ 1668 = .ok (.invokevirtual 211, 3) := by decide +kernel
theorem dL_law__1671 : decode cL_law_ 1671 = .ok (.istore 6, 2) := by decide +kernel
theorem dL_law__1673 : decode cL_law_ 1673 = .ok (.aload_n 2, 1) := by decide +kernel
theorem dL_law__1674 : decode cL_law_ 1674 = .ok (.invokevirtual 136, 3) := by decide +kernel
theorem dL_law__1677 : decode cL_law_ 1677 = .ok (.iload 5, 2) := by decide +kernel
theorem dL_law__1679 : decode cL_law_ 1679 = .ok (.if_icmp .eq 5, 3) := by decide +kernel
theorem dL_law__1682 : decode cL_law_ 1682 = .ok (.iconst 0, 1) := by decide +kernel
theorem dL_law__1683 : decode cL_law_ 1683 = .ok (.ireturn, 1) := by decide +kernel
theorem dL_law__1684 : decode cL_law_ 1684 = .ok (.iload 5, 2) := by decide +kernel
theorem dL_law__1686 : decode cL_law_ 1686 = .ok (.ifCond .ne 15, 3) := by decide +kernel
theorem dL_law__1689 : decode cL_law_ 1689 = .ok (.aload_n 3, 1) := by decide +kernel
theorem dL_law__1690 : decode cL_law_ 1690 = .ok (.iconst 0, 1) := by decide +kernel
theorem dL_law__1691 : decode cL_law_ 1691 = .ok (.laload, 1) := by decide +kernel
theorem dL_law__1692 : decode cL_law_ 1692 = .ok (.iload 6, 2) := by decide +kernel
theorem dL_law__1694 : decode cL_law_ 1694 = .ok (.i2l, 1) := by decide +kernel
theorem dL_law__1695 : decode cL_law_ 1695 = .ok (.lcmp, 1) := by decide +kernel
theorem dL_law__1696 : decode cL_law_ 1696 = .ok (.ifCond .eq 5, 3) := by decide +kernel
theorem dL_law__1699 : decode cL_law_ 1699 = .ok (.iconst 0, 1) := by decide +kernel
theorem dL_law__1700 : decode cL_law_ 1700 = .ok (.ireturn, 1) := by decide +kernel
theorem dL_law__1701 : decode cL_law_ 1701 = .ok (.goto 839, 3) := by decide +kernel
theorem dL_law__1704 : decode cL_law_ 1704 = .ok (.aload_n 1, 1) := by decide +kernel
theorem dL_law__1705 : decode cL_law_ 1705 = .ok (.aload_n 0, 1) := by decide +kernel
theorem dL_law__1706 : decode cL_law_ 1706 = .ok (.iload 4, 2) := by decide +kernel
theorem dL_law__1708 : decode cL_law_ 1708 = .ok (.iconst 1, 1) := by decide +kernel
theorem dL_law__1709 : decode cL_law_ 1709 = .ok (.iadd, 1) := by decide +kernel
theorem dL_law__1710 : decode cL_law_ 1710 = .ok (.iaload, 1) := by decide +kernel
theorem dL_law__1711 : decode cL_law_ 1711 = .ok (.ifCond .eq 7, 3) := by decide +kernel
theorem dL_law__1714 : decode cL_law_ 1714 = .ok (.iconst 1, 1) := by decide +kernel
theorem dL_law__1715 : decode cL_law_ 1715 = .ok (.goto 4, 3) := by decide +kernel
theorem dL_law__1718 : decode cL_law_ 1718 = .ok (.iconst 0, 1) := by decide +kernel
theorem dL_law__1719 : decode cL_law_ 1719 = .ok (.aload_n 3, 1) := by decide +kernel
theorem dL_law__1720 : decode cL_law_ 1720 = .ok (.invokestatic 212, 3) := by decide +kernel
theorem dL_law__1723 : decode cL_law_ 1723 = .ok (.istore 5, 2) := by decide +kernel
theorem dL_law__1725 : decode cL_law_ 1725 = .ok (.aload_n 2, 1) := by decide +kernel
theorem dL_law__1726 : decode cL_law_ 1726 = .ok (.aload_n 0, 1) := by decide +kernel
theorem dL_law__1727 : decode cL_law_ 1727 = .ok (.iload 4, 2) := by decide +kernel
theorem dL_law__1729 : decode cL_law_ 1729 = .ok (.iconst 1, 1) := by decide +kernel
theorem dL_law__1730 : decode cL_law_ 1730 = .ok (.iadd, 1) := by decide +kernel
theorem dL_law__1731 : decode cL_law_ 1731 = .ok (.iaload, 1) := by decide +kernel
theorem dL_law__1732 : decode cL_law_ 1732 = .ok (.ifCond .eq 7, 3) := by decide +kernel
theorem dL_law__1735 : decode cL_law_ 1735 = .ok (.iconst 1, 1) := by decide +kernel
theorem dL_law__1736 : decode cL_law_ 1736 = .ok (.goto 4, 3) := by decide +kernel
theorem dL_law__1739 : decode cL_law_ 1739 = .ok (.iconst 0, 1) := by decide +kernel
theorem dL_law__1740 : decode cL_law_ 1740 = .ok (.invokevirtual 215, 3) := by decide +kernel
theorem dL_law__1743 : decode cL_law_ 1743 = .ok (.istore 6, 2) := by decide +kernel
theorem dL_law__1745 : decode cL_law_ 1745 = .ok (.aload_n 2, 1) := by decide +kernel
theorem dL_law__1746 : decode cL_law_ 1746 = .ok (.invokevirtual 136, 3) := by decide +kernel
theorem dL_law__1749 : decode cL_law_ 1749 = .ok (.iload 5, 2) := by decide +kernel
theorem dL_law__1751 : decode cL_law_ 1751 = .ok (.if_icmp .eq 5, 3) := by decide +kernel
theorem dL_law__1754 : decode cL_law_ 1754 = .ok (.iconst 0, 1) := by decide +kernel
theorem dL_law__1755 : decode cL_law_ 1755 = .ok (.ireturn, 1) := by decide +kernel
theorem dL_law__1756 : decode cL_law_ 1756 = .ok (.iload 5, 2) := by decide +kernel
theorem dL_law__1758 : decode cL_law_ 1758 = .ok (.ifCond .ne 15, 3) := by decide +kernel
theorem dL_law__1761 : decode cL_law_ 1761 = .ok (.aload_n 3, 1) := by decide +kernel
theorem dL_law__1762 : decode cL_law_ 1762 = .ok (.iconst 0, 1) := by decide +kernel
theorem dL_law__1763 : decode cL_law_ 1763 = .ok (.laload, 1) := by decide +kernel
theorem dL_law__1764 : decode cL_law_ 1764 = .ok (.iload 6, 2) := by decide +kernel
theorem dL_law__1766 : decode cL_law_ 1766 = .ok (.i2l, 1) := by decide +kernel
theorem dL_law__1767 : decode cL_law_ 1767 = .ok (.lcmp, 1) := by decide +kernel
theorem dL_law__1768 : decode cL_law_ 1768 = .ok (.ifCond .eq 5, 3) := by decide +kernel
theorem dL_law__1771 : decode cL_law_ 1771 = .ok (.iconst 0, 1) := by decide +kernel
theorem dL_law__1772 : decode cL_law_ 1772 = .ok (.ireturn, 1) := by decide +kernel
theorem dL_law__1773 : decode cL_law_ 1773 = .ok (.goto 767, 3) := by decide +kernel
theorem dL_law__1776 : decode cL_law_ 1776 = .ok (.aload_n 1, 1) := by decide +kernel
theorem dL_law__1777 : decode cL_law_ 1777 = .ok (.aload_n 3, 1) := by decide +kernel
theorem dL_law__1778 : decode cL_law_ 1778 = .ok (.invokestatic 216, 3) := by decide +kernel
theorem dL_law__1781 : decode cL_law_ 1781 = .ok (.istore 5, 2) := by decide +kernel
theorem dL_law__1783 : decode cL_law_ 1783 = .ok (.aload_n 2, 1) := by decide +kernel
theorem dL_law__1784 : decode cL_law_ 1784 = .ok (.invokevirtual 218, 3) := by decide +kernel
theorem dL_law__1787 : decode cL_law_ 1787 = .ok (.istore 6, 2) := by decide +kernel
theorem dL_law__1789 : decode cL_law_ 1789 = .ok (.aload_n 2, 1) := by decide +kernel
theorem dL_law__1790 : decode cL_law_ 1790 = .ok (.invokevirtual 136, 3) := by decide +kernel
theorem dL_law__1793 : decode cL_law_ 1793 = .ok (.iload 5, 2) := by decide +kernel
theorem dL_law__1795 : decode cL_law_ 1795 = .ok (.if_icmp .eq 5, 3) := by decide +kernel
theorem dL_law__1798 : decode cL_law_ 1798 = .ok (.iconst 0, 1) := by decide +kernel
theorem dL_law__1799 : decode cL_law_ 1799 = .ok (.ireturn, 1) := by decide +kernel
theorem dL_law__1800 : decode cL_law_ 1800 = .ok (.iload 5, 2) := by decide +kernel
theorem dL_law__1802 : decode cL_law_ 1802 = .ok (.ifCond .ne 15, 3) := by decide +kernel
theorem dL_law__1805 : decode cL_law_ 1805 = .ok (.aload_n 3, 1) := by decide +kernel
theorem dL_law__1806 : decode cL_law_ 1806 = .ok (.iconst 0, 1) := by decide +kernel
theorem dL_law__1807 : decode cL_law_ 1807 = .ok (.laload, 1) := by decide +kernel
theorem dL_law__1808 : decode cL_law_ 1808 = .ok (.iload 6, 2) := by decide +kernel
theorem dL_law__1810 : decode cL_law_ 1810 = .ok (.i2l, 1) := by decide +kernel
theorem dL_law__1811 : decode cL_law_ 1811 = .ok (.lcmp, 1) := by decide +kernel
theorem dL_law__1812 : decode cL_law_ 1812 = .ok (.ifCond .eq 5, 3) := by decide +kernel
theorem dL_law__1815 : decode cL_law_ 1815 = .ok (.iconst 0, 1) := by decide +kernel
theorem dL_law__1816 : decode cL_law_ 1816 = .ok (.ireturn, 1) := by decide +kernel
theorem dL_law__1817 : decode cL_law_ 1817 = .ok (.goto 723, 3) := by decide +kernel
theorem dL_law__1820 : decode cL_law_ 1820 = .ok (.aload_n 1, 1) := by decide +kernel
theorem dL_law__1821 : decode cL_law_ 1821 = .ok (.invokevirtual 219, 3) := by decide +kernel
theorem dL_law__1824 : decode cL_law_ 1824 = .ok (.aload_n 2, 1) := by decide +kernel
theorem dL_law__1825 : decode cL_law_ 1825 = .ok (.invokevirtual 222, 3) := by decide +kernel
theorem dL_law__1828 : decode cL_law_ 1828 = .ok (.if_icmp .eq 712, 3) := by decide +kernel
theorem dL_law__1831 : decode cL_law_ 1831 = .ok (.iconst 0, 1) := by decide +kernel
theorem dL_law__1832 : decode cL_law_ 1832 = .ok (.ireturn, 1) := by decide +kernel
theorem dL_law__1833 : decode cL_law_ 1833 = .ok (.aload_n 1, 1) := by decide +kernel
theorem dL_law__1834 : decode cL_law_ 1834 = .ok (.invokevirtual 223, 3) := by decide +kernel
theorem dL_law__1837 : decode cL_law_ 1837 = .ok (.aload_n 2, 1) := by decide +kernel
theorem dL_law__1838 : decode cL_law_ 1838 = .ok (.invokevirtual 226, 3) := by decide +kernel
theorem dL_law__1841 : decode cL_law_ 1841 = .ok (.if_icmp .eq 699, 3) := by decide +kernel
theorem dL_law__1844 : decode cL_law_ 1844 = .ok (.iconst 0, 1) := by decide +kernel
theorem dL_law__1845 : decode cL_law_ 1845 = .ok (.ireturn, 1) := by decide +kernel
theorem dL_law__1846 : decode cL_law_ 1846 = .ok (.aload_n 1, 1) := by decide +kernel
theorem dL_law__1847 : decode cL_law_ 1847 = .ok (.invokevirtual 227, 3) := by decide +kernel
theorem dL_law__1850 : decode cL_law_ 1850 = .ok (.aload_n 2, 1) := by decide +kernel
theorem dL_law__1851 : decode cL_law_ 1851 = .ok (.invokevirtual 230, 3) := by decide +kernel
theorem dL_law__1854 : decode cL_law_ 1854 = .ok (.if_icmp .eq 686, 3) := by decide +kernel
theorem dL_law__1857 : decode cL_law_ 1857 = .ok (.iconst 0, 1) := by decide +kernel
theorem dL_law__1858 : decode cL_law_ 1858 = .ok (.ireturn, 1) := by decide +kernel
theorem dL_law__1859 : decode cL_law_ 1859 = .ok (.aload_n 1, 1) := by decide +kernel
theorem dL_law__1860 : decode cL_law_ 1860 = .ok (.aload_n 0, 1) := by decide +kernel
theorem dL_law__1861 : decode cL_law_ 1861 = .ok (.iload 4, 2) := by decide +kernel
theorem dL_law__1863 : decode cL_law_ 1863 = .ok (.iconst 1, 1) := by decide +kernel
theorem dL_law__1864 : decode cL_law_ 1864 = .ok (.iadd, 1) := by decide +kernel
theorem dL_law__1865 : decode cL_law_ 1865 = .ok (.iaload, 1) := by decide +kernel
theorem dL_law__1866 : decode cL_law_ 1866 = .ok (.aload_n 0, 1) := by decide +kernel
theorem dL_law__1867 : decode cL_law_ 1867 = .ok (.iload 4, 2) := by decide +kernel
theorem dL_law__1869 : decode cL_law_ 1869 = .ok (.iconst 2, 1) := by decide +kernel
theorem dL_law__1870 : decode cL_law_ 1870 = .ok (.iadd, 1) := by decide +kernel
theorem dL_law__1871 : decode cL_law_ 1871 = .ok (.iaload, 1) := by decide +kernel
theorem dL_law__1872 : decode cL_law_ 1872 = .ok (.aload_n 3, 1) := by decide +kernel
theorem dL_law__1873 : decode cL_law_ 1873 = .ok (.invokestatic 231, 3) := by decide +kernel
theorem dL_law__1876 : decode cL_law_ 1876 = .ok (.istore 5, 2) := by decide +kernel
theorem dL_law__1878 : decode cL_law_ 1878 = .ok (.aload_n 2, 1) := by decide +kernel
theorem dL_law__1879 : decode cL_law_ 1879 = .ok (.aload_n 0, 1) := by decide +kernel
theorem dL_law__1880 : decode cL_law_ 1880 = .ok (.iload 4, 2) := by decide +kernel
theorem dL_law__1882 : decode cL_law_ 1882 = .ok (.iconst 1, 1) := by decide +kernel
theorem dL_law__1883 : decode cL_law_ 1883 = .ok (.iadd, 1) := by decide +kernel
theorem dL_law__1884 : decode cL_law_ 1884 = .ok (.iaload, 1) := by decide +kernel
theorem dL_law__1885 : decode cL_law_ 1885 = .ok (.aload_n 0, 1) := by decide +kernel
theorem dL_law__1886 : decode cL_law_ 1886 = .ok (.iload 4, 2) := by decide +kernel
theorem dL_law__1888 : decode cL_law_ 1888 = .ok (.iconst 2, 1) := by decide +kernel
theorem dL_law__1889 : decode cL_law_ 1889 = .ok (.iadd, 1) := by decide +kernel
theorem dL_law__1890 : decode cL_law_ 1890 = .ok (.iaload, 1) := by decide +kernel
theorem dL_law__1891 : decode cL_law_ 1891 = .ok (.invokevirtual 233, 3) := by decide +kernel
theorem dL_law__1894 : decode cL_law_ 1894 = .ok (.istore 6, 2) := by decide +kernel
theorem dL_law__1896 : decode cL_law_ 1896 = .ok (.aload_n 2, 1) := by decide +kernel
theorem dL_law__1897 : decode cL_law_ 1897 = .ok (.invokevirtual 136, 3) := by decide +kernel
theorem dL_law__1900 : decode cL_law_ 1900 = .ok (.iload 5, 2) := by decide +kernel
theorem dL_law__1902 : decode cL_law_ 1902 = .ok (.if_icmp .eq 5, 3) := by decide +kernel
theorem dL_law__1905 : decode cL_law_ 1905 = .ok (.iconst 0, 1) := by decide +kernel
theorem dL_law__1906 : decode cL_law_ 1906 = .ok (.ireturn, 1) := by decide +kernel
theorem dL_law__1907 : decode cL_law_ 1907 = .ok (.iload 5, 2) := by decide +kernel
theorem dL_law__1909 : decode cL_law_ 1909 = .ok (.ifCond .ne 15, 3) := by decide +kernel
theorem dL_law__1912 : decode cL_law_ 1912 = .ok (.aload_n 3, 1) := by decide +kernel
theorem dL_law__1913 : decode cL_law_ 1913 = .ok (.iconst 0, 1) := by decide +kernel
theorem dL_law__1914 : decode cL_law_ 1914 = .ok (.laload, 1) := by decide +kernel
theorem dL_law__1915 : decode cL_law_ 1915 = .ok (.iload 6, 2) := by decide +kernel
theorem dL_law__1917 : decode cL_law_ 1917 = .ok (.i2l, 1) := by decide +kernel
theorem dL_law__1918 : decode cL_law_ 1918 = .ok (.lcmp, 1) := by decide +kernel
theorem dL_law__1919 : decode cL_law_ 1919 = .ok (.ifCond .eq 5, 3) := by decide +kernel
theorem dL_law__1922 : decode cL_law_ 1922 = .ok (.iconst 0, 1) := by decide +kernel
theorem dL_law__1923 : decode cL_law_ 1923 = .ok (.ireturn, 1) := by decide +kernel
theorem dL_law__1924 : decode cL_law_ 1924 = .ok (.goto 616, 3) := by decide +kernel
theorem dL_law__1927 : decode cL_law_ 1927 = .ok (.aload_n 1, 1) := by decide +kernel
theorem dL_law__1928 : decode cL_law_ 1928 = .ok (.aload_n 0, 1) := by decide +kernel
theorem dL_law__1929 : decode cL_law_ 1929 = .ok (.iload 4, 2) := by decide +kernel
theorem dL_law__1931 : decode cL_law_ 1931 = .ok (.iconst 1, 1) := by decide +kernel
theorem dL_law__1932 : decode cL_law_ 1932 = .ok (.iadd, 1) := by decide +kernel
theorem dL_law__1933 : decode cL_law_ 1933 = .ok (.iaload, 1) := by decide +kernel
theorem dL_law__1934 : decode cL_law_ 1934 = .ok (.aload_n 3, 1) := by decide +kernel
theorem dL_law__1935 : decode cL_law_ 1935 = .ok (.invokestatic 234, 3) := by decide +kernel
theorem dL_law__1938 : decode cL_law_ 1938 = .ok (.istore 5, 2) := by decide +kernel
theorem dL_law__1940 : decode cL_law_ 1940 = .ok (.aload_n 2, 1) := by decide +kernel
theorem dL_law__1941 : decode cL_law_ 1941 = .ok (.aload_n 0, 1) := by decide +kernel
theorem dL_law__1942 : decode cL_law_ 1942 = .ok (.iload 4, 2) := by decide +kernel
theorem dL_law__1944 : decode cL_law_ 1944 = .ok (.iconst 1, 1) := by decide +kernel
theorem dL_law__1945 : decode cL_law_ 1945 = .ok (.iadd, 1) := by decide +kernel
theorem dL_law__1946 : decode cL_law_ 1946 = .ok (.iaload, 1) := by decide +kernel
theorem dL_law__1947 : decode cL_law_ 1947 = .ok (.invokevirtual 236, 3) := by decide +kernel
theorem dL_law__1950 : decode cL_law_ 1950 = .ok (.istore 6, 2) := by decide +kernel
theorem dL_law__1952 : decode cL_law_ 1952 = .ok (.aload_n 2, 1) := by decide +kernel
theorem dL_law__1953 : decode cL_law_ 1953 = .ok (.invokevirtual 136, 3) := by decide +kernel
theorem dL_law__1956 : decode cL_law_ 1956 = .ok (.iload 5, 2) := by decide +kernel
theorem dL_law__1958 : decode cL_law_ 1958 = .ok (.if_icmp .eq 5, 3) := by decide +kernel
theorem dL_law__1961 : decode cL_law_ 1961 = .ok (.iconst 0, 1) := by decide +kernel
theorem dL_law__1962 : decode cL_law_ 1962 = .ok (.ireturn, 1) := by decide +kernel
theorem dL_law__1963 : decode cL_law_ 1963 = .ok (.iload 5, 2) := by decide +kernel
theorem dL_law__1965 : decode cL_law_ 1965 = .ok (.ifCond .ne 15, 3) := by decide +kernel
theorem dL_law__1968 : decode cL_law_ 1968 = .ok (.aload_n 3, 1) := by decide +kernel
theorem dL_law__1969 : decode cL_law_ 1969 = .ok (.iconst 0, 1) := by decide +kernel
theorem dL_law__1970 : decode cL_law_ 1970 = .ok (.laload, 1) := by decide +kernel
theorem dL_law__1971 : decode cL_law_ 1971 = .ok (.iload 6, 2) := by decide +kernel
theorem dL_law__1973 : decode cL_law_ 1973 = .ok (.i2l, 1) := by decide +kernel
theorem dL_law__1974 : decode cL_law_ 1974 = .ok (.lcmp, 1) := by decide +kernel
theorem dL_law__1975 : decode cL_law_ 1975 = .ok (.ifCond .eq 5, 3) := by decide +kernel
theorem dL_law__1978 : decode cL_law_ 1978 = .ok (.iconst 0, 1) := by decide +kernel
theorem dL_law__1979 : decode cL_law_ 1979 = .ok (.ireturn, 1) := by decide +kernel
theorem dL_law__1980 : decode cL_law_ 1980 = .ok (.goto 560, 3) := by decide +kernel
theorem dL_law__1983 : decode cL_law_ 1983 = .ok (.aload_n 1, 1) := by decide +kernel
theorem dL_law__1984 : decode cL_law_ 1984 = .ok (.aload_n 0, 1) := by decide +kernel
theorem dL_law__1985 : decode cL_law_ 1985 = .ok (.iload 4, 2) := by decide +kernel
theorem dL_law__1987 : decode cL_law_ 1987 = .ok (.iconst 1, 1) := by decide +kernel
theorem dL_law__1988 : decode cL_law_ 1988 = .ok (.iadd, 1) := by decide +kernel
theorem dL_law__1989 : decode cL_law_ 1989 = .ok (.iaload, 1) := by decide +kernel
theorem dL_law__1990 : decode cL_law_ 1990 = .ok (.aload_n 3, 1) := by decide +kernel
theorem dL_law__1991 : decode cL_law_ 1991 = .ok (.invokestatic 237, 3) := by decide +kernel
theorem dL_law__1994 : decode cL_law_ 1994 = .ok (.istore 5, 2) := by decide +kernel
theorem dL_law__1996 : decode cL_law_ 1996 = .ok (.aload_n 2, 1) := by decide +kernel
theorem dL_law__1997 : decode cL_law_ 1997 = .ok (.aload_n 0, 1) := by decide +kernel
theorem dL_law__1998 : decode cL_law_ 1998 = .ok (.iload 4, 2) := by decide +kernel
theorem dL_law__2000 : decode cL_law_ 2000 = .ok (.iconst 1, 1) := by decide +kernel
theorem dL_law__2001 : decode cL_law_ 2001 = .ok (.iadd, 1) := by decide +kernel
theorem dL_law__2002 : decode cL_law_ 2002 = .ok (.iaload, 1) := by decide +kernel
theorem dL_law__2003 : decode cL_law_ 2003 = .ok (.invokevirtual 239, 3) := by decide +kernel
theorem dL_law__2006 : decode cL_law_ 2006 = .ok (.istore 6, 2) := by decide +kernel
theorem dL_law__2008 : decode cL_law_ 2008 = .ok (.aload_n 2, 1) := by decide +kernel
theorem dL_law__2009 : decode cL_law_ 2009 = .ok (.invokevirtual 136, 3) := by decide +kernel
theorem dL_law__2012 : decode cL_law_ 2012 = .ok (.iload 5, 2) := by decide +kernel
theorem dL_law__2014 : decode cL_law_ 2014 = .ok (.if_icmp .eq 5, 3) := by decide +kernel
theorem dL_law__2017 : decode cL_law_ 2017 = .ok (.iconst 0, 1) := by decide +kernel
theorem dL_law__2018 : decode cL_law_ 2018 = .ok (.ireturn, 1) := by decide +kernel
theorem dL_law__2019 : decode cL_law_ 2019 = .ok (.iload 5, 2) := by decide +kernel
theorem dL_law__2021 : decode cL_law_ 2021 = .ok (.ifCond .ne 15, 3) := by decide +kernel
theorem dL_law__2024 : decode cL_law_ 2024 = .ok (.aload_n 3, 1) := by decide +kernel
theorem dL_law__2025 : decode cL_law_ 2025 = .ok (.iconst 0, 1) := by decide +kernel
theorem dL_law__2026 : decode cL_law_ 2026 = .ok (.laload, 1) := by decide +kernel
theorem dL_law__2027 : decode cL_law_ 2027 = .ok (.iload 6, 2) := by decide +kernel
theorem dL_law__2029 : decode cL_law_ 2029 = .ok (.i2l, 1) := by decide +kernel
theorem dL_law__2030 : decode cL_law_ 2030 = .ok (.lcmp, 1) := by decide +kernel
theorem dL_law__2031 : decode cL_law_ 2031 = .ok (.ifCond .eq 5, 3) := by decide +kernel
theorem dL_law__2034 : decode cL_law_ 2034 = .ok (.iconst 0, 1) := by decide +kernel
theorem dL_law__2035 : decode cL_law_ 2035 = .ok (.ireturn, 1) := by decide +kernel
theorem dL_law__2036 : decode cL_law_ 2036 = .ok (.goto 504, 3) := by decide +kernel
theorem dL_law__2039 : decode cL_law_ 2039 = .ok (.aload_n 1, 1) := by decide +kernel
theorem dL_law__2040 : decode cL_law_ 2040 = .ok (.aload_n 0, 1) := by decide +kernel
theorem dL_law__2041 : decode cL_law_ 2041 = .ok (.iload 4, 2) := by decide +kernel
theorem dL_law__2043 : decode cL_law_ 2043 = .ok (.iconst 1, 1) := by decide +kernel
theorem dL_law__2044 : decode cL_law_ 2044 = .ok (.iadd, 1) := by decide +kernel
theorem dL_law__2045 : decode cL_law_ 2045 = .ok (.iaload, 1) := by decide +kernel
theorem dL_law__2046 : decode cL_law_ 2046 = .ok (.aload_n 0, 1) := by decide +kernel
theorem dL_law__2047 : decode cL_law_ 2047 = .ok (.iload 4, 2) := by decide +kernel
theorem dL_law__2049 : decode cL_law_ 2049 = .ok (.iconst 2, 1) := by decide +kernel
theorem dL_law__2050 : decode cL_law_ 2050 = .ok (.iadd, 1) := by decide +kernel
theorem dL_law__2051 : decode cL_law_ 2051 = .ok (.iaload, 1) := by decide +kernel
theorem dL_law__2052 : decode cL_law_ 2052 = .ok (.aload_n 3, 1) := by decide +kernel
theorem dL_law__2053 : decode cL_law_ 2053 = .ok (.invokestatic 240, 3) := by decide +kernel
theorem dL_law__2056 : decode cL_law_ 2056 = .ok (.istore 5, 2) := by decide +kernel
theorem dL_law__2058 : decode cL_law_ 2058 = .ok (.aload_n 2, 1) := by decide +kernel
theorem dL_law__2059 : decode cL_law_ 2059 = .ok (.aload_n 0, 1) := by decide +kernel
theorem dL_law__2060 : decode cL_law_ 2060 = .ok (.iload 4, 2) := by decide +kernel
theorem dL_law__2062 : decode cL_law_ 2062 = .ok (.iconst 1, 1) := by decide +kernel
theorem dL_law__2063 : decode cL_law_ 2063 = .ok (.iadd, 1) := by decide +kernel
theorem dL_law__2064 : decode cL_law_ 2064 = .ok (.iaload, 1) := by decide +kernel
theorem dL_law__2065 : decode cL_law_ 2065 = .ok (.aload_n 0, 1) := by decide +kernel
theorem dL_law__2066 : decode cL_law_ 2066 = .ok (.iload 4, 2) := by decide +kernel
theorem dL_law__2068 : decode cL_law_ 2068 = .ok (.iconst 2, 1) := by decide +kernel
theorem dL_law__2069 : decode cL_law_ 2069 = .ok (.iadd, 1) := by decide +kernel
theorem dL_law__2070 : decode cL_law_ 2070 = .ok (.iaload, 1) := by decide +kernel
theorem dL_law__2071 : decode cL_law_ 2071 = .ok (.invokevirtual 242, 3) := by decide +kernel
theorem dL_law__2074 : decode cL_law_ 2074 = .ok (.istore 6, 2) := by decide +kernel
theorem dL_law__2076 : decode cL_law_ 2076 = .ok (.aload_n 2, 1) := by decide +kernel
theorem dL_law__2077 : decode cL_law_ 2077 = .ok (.invokevirtual 136, 3) := by decide +kernel
theorem dL_law__2080 : decode cL_law_ 2080 = .ok (.iload 5, 2) := by decide +kernel
theorem dL_law__2082 : decode cL_law_ 2082 = .ok (.if_icmp .eq 5, 3) := by decide +kernel
theorem dL_law__2085 : decode cL_law_ 2085 = .ok (.iconst 0, 1) := by decide +kernel
theorem dL_law__2086 : decode cL_law_ 2086 = .ok (.ireturn, 1) := by decide +kernel
theorem dL_law__2087 : decode cL_law_ 2087 = .ok (.iload 5, 2) := by decide +kernel
theorem dL_law__2089 : decode cL_law_ 2089 = .ok (.ifCond .ne 15, 3) := by decide +kernel
theorem dL_law__2092 : decode cL_law_ 2092 = .ok (.aload_n 3, 1) := by decide +kernel
theorem dL_law__2093 : decode cL_law_ 2093 = .ok (.iconst 0, 1) := by decide +kernel
theorem dL_law__2094 : decode cL_law_ 2094 = .ok (.laload, 1) := by decide +kernel
theorem dL_law__2095 : decode cL_law_ 2095 = .ok (.iload 6, 2) := by decide +kernel
theorem dL_law__2097 : decode cL_law_ 2097 = .ok (.i2l, 1) := by decide +kernel
theorem dL_law__2098 : decode cL_law_ 2098 = .ok (.lcmp, 1) := by decide +kernel
theorem dL_law__2099 : decode cL_law_ 2099 = .ok (.ifCond .eq 5, 3) := by decide +kernel
theorem dL_law__2102 : decode cL_law_ 2102 = .ok (.iconst 0, 1) := by decide +kernel
theorem dL_law__2103 : decode cL_law_ 2103 = .ok (.ireturn, 1) := by decide +kernel
theorem dL_law__2104 : decode cL_law_ 2104 = .ok (.goto 436, 3) := by decide +kernel
theorem dL_law__2107 : decode cL_law_ 2107 = .ok (.aload_n 1, 1) := by decide +kernel
theorem dL_law__2108 : decode cL_law_ 2108 = .ok (.invokevirtual 243, 3) := by decide +kernel
theorem dL_law__2111 : decode cL_law_ 2111 = .ok (.aload_n 2, 1) := by decide +kernel
theorem dL_law__2112 : decode cL_law_ 2112 = .ok (.invokevirtual 246, 3) := by decide +kernel
theorem dL_law__2115 : decode cL_law_ 2115 = .ok (.if_icmp .eq 425, 3) := by decide +kernel
theorem dL_law__2118 : decode cL_law_ 2118 = .ok (.iconst 0, 1) := by decide +kernel
theorem dL_law__2119 : decode cL_law_ 2119 = .ok (.ireturn, 1) := by decide +kernel
theorem dL_law__2120 : decode cL_law_ 2120 = .ok (.aload_n 1, 1) := by decide +kernel
theorem dL_law__2121 : decode cL_law_ 2121 = .ok (.invokevirtual 247, 3) := by decide +kernel
theorem dL_law__2124 : decode cL_law_ 2124 = .ok (.aload_n 2, 1) := by decide +kernel
theorem dL_law__2125 : decode cL_law_ 2125 = .ok (.invokevirtual 250, 3) := by decide +kernel
theorem dL_law__2128 : decode cL_law_ 2128 = .ok (.if_icmp .eq 412, 3) := by decide +kernel
theorem dL_law__2131 : decode cL_law_ 2131 = .ok (.iconst 0, 1) := by decide +kernel
theorem dL_law__2132 : decode cL_law_ 2132 = .ok (.ireturn, 1) := by decide +kernel
theorem dL_law__2133 : decode cL_law_ 2133 = .ok (.aload_n 1, 1) := by decide +kernel
theorem dL_law__2134 : decode cL_law_ 2134 = .ok (.aload_n 0, 1) := by decide +kernel
theorem dL_law__2135 : decode cL_law_ 2135 = .ok (.iload 4, 2) := by decide +kernel
theorem dL_law__2137 : decode cL_law_ 2137 = .ok (.iconst 1, 1) := by decide +kernel
theorem dL_law__2138 : decode cL_law_ 2138 = .ok (.iadd, 1) := by decide +kernel
theorem dL_law__2139 : decode cL_law_ 2139 = .ok (.iaload, 1) := by decide +kernel
theorem dL_law__2140 : decode cL_law_ 2140 = .ok (.aload_n 0, 1) := by decide +kernel
theorem dL_law__2141 : decode cL_law_ 2141 = .ok (.iload 4, 2) := by decide +kernel
theorem dL_law__2143 : decode cL_law_ 2143 = .ok (.iconst 2, 1) := by decide +kernel
theorem dL_law__2144 : decode cL_law_ 2144 = .ok (.iadd, 1) := by decide +kernel
theorem dL_law__2145 : decode cL_law_ 2145 = .ok (.iaload, 1) := by decide +kernel
theorem dL_law__2146 : decode cL_law_ 2146 = .ok (.ifCond .eq 7, 3) := by decide +kernel
theorem dL_law__2149 : decode cL_law_ 2149 = .ok (.iconst 1, 1) := by decide +kernel
theorem dL_law__2150 : decode cL_law_ 2150 = .ok (.goto 4, 3) := by decide +kernel
theorem dL_law__2153 : decode cL_law_ 2153 = .ok (.iconst 0, 1) := by decide +kernel
theorem dL_law__2154 : decode cL_law_ 2154 = .ok (.aload_n 3, 1) := by decide +kernel
theorem dL_law__2155 : decode cL_law_ 2155 = .ok (.invokestatic 251, 3) := by decide +kernel
theorem dL_law__2158 : decode cL_law_ 2158 = .ok (.istore 5, 2) := by decide +kernel
theorem dL_law__2160 : decode cL_law_ 2160 = .ok (.aload_n 2, 1) := by decide +kernel
theorem dL_law__2161 : decode cL_law_ 2161 = .ok (.aload_n 0, 1) := by decide +kernel
theorem dL_law__2162 : decode cL_law_ 2162 = .ok (.iload 4, 2) := by decide +kernel
theorem dL_law__2164 : decode cL_law_ 2164 = .ok (.iconst 1, 1) := by decide +kernel
theorem dL_law__2165 : decode cL_law_ 2165 = .ok (.iadd, 1) := by decide +kernel
theorem dL_law__2166 : decode cL_law_ 2166 = .ok (.iaload, 1) := by decide +kernel
theorem dL_law__2167 : decode cL_law_ 2167 = .ok (.aload_n 0, 1) := by decide +kernel
theorem dL_law__2168 : decode cL_law_ 2168 = .ok (.iload 4, 2) := by decide +kernel
theorem dL_law__2170 : decode cL_law_ 2170 = .ok (.iconst 2, 1) := by decide +kernel
theorem dL_law__2171 : decode cL_law_ 2171 = .ok (.iadd, 1) := by decide +kernel
theorem dL_law__2172 : decode cL_law_ 2172 = .ok (.iaload, 1) := by decide +kernel
theorem dL_law__2173 : decode cL_law_ 2173 = .ok (.ifCond .eq 7, 3) := by decide +kernel
theorem dL_law__2176 : decode cL_law_ 2176 = .ok (.iconst 1, 1) := by decide +kernel
theorem dL_law__2177 : decode cL_law_ 2177 = .ok (.goto 4, 3) := by decide +kernel
theorem dL_law__2180 : decode cL_law_ 2180 = .ok (.iconst 0, 1) := by decide +kernel
theorem dL_law__2181 : decode cL_law_ 2181 = .ok (.invokevirtual 253, 3) := by decide +kernel
theorem dL_law__2184 : decode cL_law_ 2184 = .ok (.istore 6, 2) := by decide +kernel
theorem dL_law__2186 : decode cL_law_ 2186 = .ok (.aload_n 2, 1) := by decide +kernel
theorem dL_law__2187 : decode cL_law_ 2187 = .ok (.invokevirtual 136, 3) := by decide +kernel
theorem dL_law__2190 : decode cL_law_ 2190 = .ok (.iload 5, 2) := by decide +kernel
theorem dL_law__2192 : decode cL_law_ 2192 = .ok (.if_icmp .eq 5, 3) := by decide +kernel
theorem dL_law__2195 : decode cL_law_ 2195 = .ok (.iconst 0, 1) := by decide +kernel
theorem dL_law__2196 : decode cL_law_ 2196 = .ok (.ireturn, 1) := by decide +kernel
theorem dL_law__2197 : decode cL_law_ 2197 = .ok (.iload 5, 2) := by decide +kernel
theorem dL_law__2199 : decode cL_law_ 2199 = .ok (.ifCond .ne 15, 3) := by decide +kernel
theorem dL_law__2202 : decode cL_law_ 2202 = .ok (.aload_n 3, 1) := by decide +kernel
theorem dL_law__2203 : decode cL_law_ 2203 = .ok (.iconst 0, 1) := by decide +kernel
theorem dL_law__2204 : decode cL_law_ 2204 = .ok (.laload, 1) := by decide +kernel
theorem dL_law__2205 : decode cL_law_ 2205 = .ok (.iload 6, 2) := by decide +kernel
theorem dL_law__2207 : decode cL_law_ 2207 = .ok (.i2l, 1) := by decide +kernel
theorem dL_law__2208 : decode cL_law_ 2208 = .ok (.lcmp, 1) := by decide +kernel
theorem dL_law__2209 : decode cL_law_ 2209 = .ok (.ifCond .eq 5, 3) := by decide +kernel
theorem dL_law__2212 : decode cL_law_ 2212 = .ok (.iconst 0, 1) := by decide +kernel
theorem dL_law__2213 : decode cL_law_ 2213 = .ok (.ireturn, 1) := by decide +kernel
theorem dL_law__2214 : decode cL_law_ 2214 = .ok (.goto 326, 3) := by decide +kernel
theorem dL_law__2217 : decode cL_law_ 2217 = .ok (.aload_n 1, 1) := by decide +kernel
theorem dL_law__2218 : decode cL_law_ 2218 = .ok (.aload_n 0, 1) := by decide +kernel
theorem dL_law__2219 : decode cL_law_ 2219 = .ok (.iload 4, 2) := by decide +kernel
theorem dL_law__2221 : decode cL_law_ 2221 = .ok (.iconst 1, 1) := by decide +kernel
theorem dL_law__2222 : decode cL_law_ 2222 = .ok (.iadd, 1) := by decide +kernel
theorem dL_law__2223 : decode cL_law_ 2223 = .ok (.iaload, 1) := by decide +kernel
theorem dL_law__2224 : decode cL_law_ 2224 = .ok (.aload_n 0, 1) := by decide +kernel
theorem dL_law__2225 : decode cL_law_ 2225 = .ok (.iload 4, 2) := by decide +kernel
theorem dL_law__2227 : decode cL_law_ 2227 = .ok (.iconst 2, 1) := by decide +kernel
theorem dL_law__2228 : decode cL_law_ 2228 = .ok (.iadd, 1) := by decide +kernel
theorem dL_law__2229 : decode cL_law_ 2229 = .ok (.iaload, 1) := by decide +kernel
theorem dL_law__2230 : decode cL_law_ 2230 = .ok (.ifCond .eq 7, 3) := by decide +kernel
theorem dL_law__2233 : decode cL_law_ 2233 = .ok (.iconst 1, 1) := by decide +kernel
theorem dL_law__2234 : decode cL_law_ 2234 = .ok (.goto 4, 3) := by decide +kernel
theorem dL_law__2237 : decode cL_law_ 2237 = .ok (.iconst 0, 1) := by decide +kernel
theorem dL_law__2238 : decode cL_law_ 2238 = .ok (.aload_n 3, 1) := by decide +kernel
theorem dL_law__2239 : decode cL_law_ 2239 = .ok (.invokestatic 254, 3) := by decide +kernel
theorem dL_law__2242 : decode cL_law_ 2242 = .ok (.istore 5, 2) := by decide +kernel
theorem dL_law__2244 : decode cL_law_ 2244 = .ok (.aload_n 2, 1) := by decide +kernel
theorem dL_law__2245 : decode cL_law_ 2245 = .ok (.aload_n 0, 1) := by decide +kernel
theorem dL_law__2246 : decode cL_law_ 2246 = .ok (.iload 4, 2) := by decide +kernel
theorem dL_law__2248 : decode cL_law_ 2248 = .ok (.iconst 1, 1) := by decide +kernel
theorem dL_law__2249 : decode cL_law_ 2249 = .ok (.iadd, 1) := by decide +kernel
theorem dL_law__2250 : decode cL_law_ 2250 = .ok (.iaload, 1) := by decide +kernel
theorem dL_law__2251 : decode cL_law_ 2251 = .ok (.aload_n 0, 1) := by decide +kernel
theorem dL_law__2252 : decode cL_law_ 2252 = .ok (.iload 4, 2) := by decide +kernel
theorem dL_law__2254 : decode cL_law_ 2254 = .ok (.iconst 2, 1) := by decide +kernel
theorem dL_law__2255 : decode cL_law_ 2255 = .ok (.iadd, 1) := by decide +kernel
theorem dL_law__2256 : decode cL_law_ 2256 = .ok (.iaload, 1) := by decide +kernel
theorem dL_law__2257 : decode cL_law_ 2257 = .ok (.ifCond .eq 7, 3) := by decide +kernel
theorem dL_law__2260 : decode cL_law_ 2260 = .ok (.iconst 1, 1) := by decide +kernel
theorem dL_law__2261 : decode cL_law_ 2261 = .ok (.goto 4, 3) := by decide +kernel
