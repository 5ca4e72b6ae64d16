set_option maxRecDepth 20000
theorem dX11_init_92 : decode cX11_init 92 = .ok (.putfield 54, 3) := by decide +kernel
theorem dX11_init_95 : decode cX11_init 95 = .ok (.aload_n 0, 1) := by decide +kernel
theorem dX11_init_96 : decode cX11_init 96 = .ok (.new 58, 3) := by decide +kernel
theorem dX11_init_99 : decode cX11_init 99 = .ok (.dup, 1) := by decide +kernel
theorem dX11_init_100 : decode cX11_init 100 = .ok (.invokespecial 60, 3) := by decide +kernel
theorem dX11_init_103 : decode cX11_init 103 = .ok (.putfield 61, 3) := by decide +kernel
theorem dX11_init_106 : decode cX11_init 106 = .ok (.aload_n 0, 1) := by decide +kernel
theorem dX11_init_107 : decode cX11_init 107 = .ok (.new 65, 3) := by decide +kernel
theorem dX11_init_110 : decode cX11_init 110 = .ok (.dup, 1) := by decide +kernel
theorem dX11_init_111 : decode cX11_init 111 = .ok (.invokespecial 67, 3) := by decide +kernel
theorem dX11_init_114 : decode cX11_init 114 = .ok (.putfield 68, 3) := by decide +kernel
theorem dX11_init_117 : decode cX11_init 117 = .ok (.aload_n 0, 1) := by decide +kernel
theorem dX11_init_118 : decode cX11_init 118 = .ok (.new 72, 3) := by decide +kernel
theorem dX11_init_121 : decode cX11_init 121 = .ok (.dup, 1) := by decide +kernel
theorem dX11_init_122 : decode cX11_init 122 = .ok (.invokespecial 74, 3) := by decide +kernel
theorem dX11_init_125 : decode cX11_init 125 = .ok (.putfield 75, 3) := by decide +kernel
theorem dX11_init_128 : decode cX11_init 128 = .ok (.return_, 1) := by decide +kernel
theorem dX11_feed_0 : decode cX11_feed 0 = .ok (.aload_n 0, 1) := by decide +kernel
theorem dX11_feed_1 : decode cX11_feed 1 = .ok (.getfield 79, 3) := by decide +kernel
theorem dX11_feed_4 : decode cX11_feed 4 = .ok (.sipush 380, 3) := by decide +kernel
theorem dX11_feed_7 : decode cX11_feed 7 = .ok (.if_icmp .le 5, 3) := by decide +kernel
theorem dX11_feed_10 : decode cX11_feed 10 = .ok (.iconst (-1), 1) := by decide +kernel
theorem dX11_feed_11 : decode cX11_feed 11 = .ok (.ireturn, 1) := by decide +kernel
theorem dX11_feed_12 : decode cX11_feed 12 = .ok (.aload_n 0, 1) := by decide +kernel
theorem dX11_feed_13 : decode cX11_feed 13 = .ok (.iload_n 1, 1) := by decide +kernel
theorem dX11_feed_14 : decode cX11_feed 14 = .ok (.invokevirtual 82, 3) := by decide +kernel
theorem dX11_feed_17 : decode cX11_feed 17 = .ok (.aload_n 0, 1) := by decide +kernel
theorem dX11_feed_18 : decode cX11_feed 18 = .ok (.iload_n 2, 1) := by decide +kernel
theorem dX11_feed_19 : decode cX11_feed 19 = .ok (.invokevirtual 82, 3) := by decide +kernel
theorem dX11_feed_22 : decode cX11_feed 22 = .ok (.aload_n 0, 1) := by decide +kernel
theorem dX11_feed_23 : decode cX11_feed 23 = .ok (.iload_n 3, 1) := by decide +kernel
theorem dX11_feed_24 : decode cX11_feed 24 = .ok (.invokevirtual 82, 3) := by decide +kernel
theorem dX11_feed_27 : decode cX11_feed 27 = .ok (.aload_n 0, 1) := by decide +kernel
theorem dX11_feed_28 : decode cX11_feed 28 = .ok (.iload 4, 2) := by decide +kernel
theorem dX11_feed_30 : decode cX11_feed 30 = .ok (.invokevirtual 82, 3) := by decide +kernel
theorem dX11_feed_33 : decode cX11_feed 33 = .ok (.aload_n 0, 1) := by decide +kernel
theorem dX11_feed_34 : decode cX11_feed 34 = .ok (.iload 5, 2) := by decide +kernel
theorem dX11_feed_36 : decode cX11_feed 36 = .ok (.invokevirtual 82, 3) := by decide +kernel
theorem dX11_feed_39 : decode cX11_feed 39 = .ok (.aload_n 0, 1) := by decide +kernel
theorem dX11_feed_40 : decode cX11_feed 40 = .ok (.getfield 79, 3) := by decide +kernel
theorem dX11_feed_43 : decode cX11_feed 43 = .ok (.ireturn, 1) := by decide +kernel
theorem dX11_feedNumber_0 : decode cX11_feedNumber 0 = .ok (.bipush 24, 2) := by decide +kernel
theorem dX11_feedNumber_2 : decode cX11_feedNumber 2 = .ok (.istore_n 2, 1) := by decide +kernel
theorem dX11_feedNumber_3 : decode cX11_feedNumber 3 = .ok (.iload_n 2, 1) := by decide +kernel
theorem dX11_feedNumber_4 : decode cX11_feedNumber 4 = .ok (.ifCond .lt 45, 3) := by decide +kernel
theorem dX11_feedNumber_7 : decode cX11_feedNumber 7 = .ok (.aload_n 0, 1) := by decide +kernel
theorem dX11_feedNumber_8 : decode cX11_feedNumber 8 = .ok (.getfield 79, 3) := by decide +kernel
theorem dX11_feedNumber_11 : decode cX11_feedNumber 11 = .ok (.sipush 400, 3) := by decide +kernel
theorem dX11_feedNumber_14 : decode cX11_feedNumber 14 = .ok (.if_icmp .ge 29, 3) := by decide +kernel
theorem dX11_feedNumber_17 : decode cX11_feedNumber 17 = .ok (.aload_n 0, 1) := by decide +kernel
theorem dX11_feedNumber_18 : decode cX11_feedNumber 18 = .ok (.getfield 9, 3) := by decide +kernel
theorem dX11_feedNumber_21 : decode cX11_feedNumber 21 = .ok (.aload_n 0, 1) := by decide +kernel
theorem dX11_feedNumber_22 : decode cX11_feedNumber 22 = .ok (.getfield 79, 3) := by decide +kernel
theorem dX11_feedNumber_25 : decode cX11_feedNumber 25 = .ok (.iload_n 1, 1) := by decide +kernel
theorem dX11_feedNumber_26 : decode cX11_feedNumber 26 = .ok (.iload_n 2, 1) := by decide +kernel
theorem dX11_feedNumber_27 : decode cX11_feedNumber 27 = .ok (.ishr, 1) := by decide +kernel
theorem dX11_feedNumber_28 : decode cX11_feedNumber 28 = .ok (.sipush 255, 3) := by decide +kernel
theorem dX11_feedNumber_31 : decode cX11_feedNumber 31 = .ok (.iand, 1) := by decide +kernel
theorem dX11_feedNumber_32 : decode cX11_feedNumber 32 = .ok (.iastore, 1) := by decide +kernel
theorem dX11_feedNumber_33 : decode cX11_feedNumber 33 = .ok (.aload_n 0, 1) := by decide +kernel
theorem dX11_feedNumber_34 : decode cX11_feedNumber 34 = .ok (.dup, 1) := by decide +kernel
theorem dX11_feedNumber_35 : decode cX11_feedNumber 35 = .ok (.getfield 79, 3) := by decide +kernel
theorem dX11_feedNumber_38 : decode cX11_feedNumber 38 = .ok (.iconst 1, 1) := by decide +kernel
theorem dX11_feedNumber_39 : decode cX11_feedNumber 39 = .ok (.iadd, 1) := by decide +kernel
theorem dX11_feedNumber_40 : decode cX11_feedNumber 40 = .ok (.putfield 79, 3) := by decide +kernel
theorem dX11_feedNumber_43 : decode cX11_feedNumber 43 = .ok (.iinc 2 (-8), 3) := by decide +kernel
theorem dX11_feedNumber_46 : decode cX11_feedNumber 46 = .ok (.goto (-43), 3) := by decide +kernel
theorem dX11_feedNumber_49 : decode cX11_feedNumber 49 = .ok (.return_, 1) := by decide +kernel
theorem dX11_end_0 : decode cX11_end 0 = .ok (.iload_n 1, 1) := by decide +kernel
theorem dX11_end_1 : decode cX11_end 1 = .ok (.ifCond .lt 11, 3) := by decide +kernel
theorem dX11_end_4 : decode cX11_end 4 = .ok (.iload_n 1, 1) := by decide +kernel
theorem dX11_end_5 : decode cX11_end 5 = .ok (.aload_n 0, 1) := by decide +kernel
theorem dX11_end_6 : decode cX11_end 6 = .ok (.getfield 79, 3) := by decide +kernel
theorem dX11_end_9 : decode cX11_end 9 = .ok (.if_icmp .le 5, 3) := by decide +kernel
theorem dX11_end_12 : decode cX11_end 12 = .ok (.iconst 0, 1) := by decide +kernel
theorem dX11_end_13 : decode cX11_end 13 = .ok (.ireturn, 1) := by decide +kernel
theorem dX11_end_14 : decode cX11_end 14 = .ok (.aload_n 0, 1) := by decide +kernel
theorem dX11_end_15 : decode cX11_end 15 = .ok (.iload_n 1, 1) := by decide +kernel
theorem dX11_end_16 : decode cX11_end 16 = .ok (.putfield 79, 3) := by decide +kernel
theorem dX11_end_19 : decode cX11_end 19 = .ok (.iconst 1, 1) := by decide +kernel
theorem dX11_end_20 : decode cX11_end 20 = .ok (.ireturn, 1) := by decide +kernel
theorem dX11_house_0 : decode cX11_house 0 = .ok (.aload_n 0, 1) := by decide +kernel
theorem dX11_house_1 : decode cX11_house 1 = .ok (.invokevirtual 86, 3) := by decide +kernel
theorem dX11_house_4 : decode cX11_house 4 = .ok (.aload_n 0, 1) := by decide +kernel
theorem dX11_house_5 : decode cX11_house 5 = .ok (.getfield 24, 3) := by decide +kernel
theorem dX11_house_8 : decode cX11_house 8 = .ok (.aload_n 0, 1) := by decide +kernel
theorem dX11_house_9 : decode cX11_house 9 = .ok (.getfield 20, 3) := by decide +kernel
theorem dX11_house_12 : decode cX11_house 12 = .ok (.invokevirtual 89, 3) := by decide +kernel
theorem dX11_house_15 : decode cX11_house 15 = .ok (.aload_n 0, 1) := by decide +kernel
theorem dX11_house_16 : decode cX11_house 16 = .ok (.getfield 40, 3) := by decide +kernel
theorem dX11_house_19 : decode cX11_house 19 = .ok (.aload_n 0, 1) := by decide +kernel
theorem dX11_house_20 : decode cX11_house 20 = .ok (.getfield 24, 3) := by decide +kernel
theorem dX11_house_23 : decode cX11_house 23 = .ok (.invokestatic 93, 3) := by decide +kernel
theorem dX11_house_26 : decode cX11_house 26 = .ok (.aload_n 0, 1) := by decide +kernel
theorem dX11_house_27 : decode cX11_house 27 = .ok (.invokevirtual 99, 3) := by decide +kernel
theorem dX11_house_30 : decode cX11_house 30 = .ok (.aload_n 0, 1) := by decide +kernel
theorem dX11_house_31 : decode cX11_house 31 = .ok (.getfield 20, 3) := by decide +kernel
theorem dX11_house_34 : decode cX11_house 34 = .ok (.getfield 102, 3) := by decide +kernel
theorem dX11_house_37 : decode cX11_house 37 = .ok (.bipush 12, 2) := by decide +kernel
theorem dX11_house_39 : decode cX11_house 39 = .ok (.if_icmp .lt 11, 3) := by decide +kernel
theorem dX11_house_42 : decode cX11_house 42 = .ok (.new 105, 3) := by decide +kernel
theorem dX11_house_45 : decode cX11_house 45 = .ok (.dup, 1) := by decide +kernel
theorem dX11_house_46 : decode cX11_house 46 = .ok (.invokespecial 107, 3) := by decide +kernel
theorem dX11_house_49 : decode cX11_house 49 = .ok (.athrow, 1) := by decide +kernel
theorem dX11_house_50 : decode cX11_house 50 = .ok (.aload_n 0, 1) := by decide +kernel
theorem dX11_house_51 : decode cX11_house 51 = .ok (.getfield 20, 3) := by decide +kernel
theorem dX11_house_54 : decode cX11_house 54 = .ok (.astore_n 1, 1) := by decide +kernel
theorem dX11_house_55 : decode cX11_house 55 = .ok (.aload_n 0, 1) := by decide +kernel
theorem dX11_house_56 : decode cX11_house 56 = .ok (.aload_n 0, 1) := by decide +kernel
theorem dX11_house_57 : decode cX11_house 57 = .ok (.getfield 24, 3) := by decide +kernel
theorem dX11_house_60 : decode cX11_house 60 = .ok (.putfield 20, 3) := by decide +kernel
theorem dX11_house_63 : decode cX11_house 63 = .ok (.aload_n 0, 1) := by decide +kernel
theorem dX11_house_64 : decode cX11_house 64 = .ok (.aload_n 1, 1) := by decide +kernel
theorem dX11_house_65 : decode cX11_house 65 = .ok (.putfield 24, 3) := by decide +kernel
theorem dX11_house_68 : decode cX11_house 68 = .ok (.aload_n 0, 1) := by decide +kernel
theorem dX11_house_69 : decode cX11_house 69 = .ok (.getfield 20, 3) := by decide +kernel
theorem dX11_house_72 : decode cX11_house 72 = .ok (.dup, 1) := by decide +kernel
theorem dX11_house_73 : decode cX11_house 73 = .ok (.getfield 102, 3) := by decide +kernel
theorem dX11_house_76 : decode cX11_house 76 = .ok (.iconst 1, 1) := by decide +kernel
theorem dX11_house_77 : decode cX11_house 77 = .ok (.iadd, 1) := by decide +kernel
theorem dX11_house_78 : decode cX11_house 78 = .ok (.putfield 102, 3) := by decide +kernel
theorem dX11_house_81 : decode cX11_house 81 = .ok (.aload_n 0, 1) := by decide +kernel
theorem dX11_house_82 : decode cX11_house 82 = .ok (.getfield 47, 3) := by decide +kernel
theorem dX11_house_85 : decode cX11_house 85 = .ok (.invokevirtual 108, 3) := by decide +kernel
theorem dX11_house_88 : decode cX11_house 88 = .ok (.aload_n 0, 1) := by decide +kernel
theorem dX11_house_89 : decode cX11_house 89 = .ok (.getfield 20, 3) := by decide +kernel
theorem dX11_house_92 : decode cX11_house 92 = .ok (.getfield 102, 3) := by decide +kernel
theorem dX11_house_95 : decode cX11_house 95 = .ok (.ireturn, 1) := by decide +kernel
theorem dX11_law_0 : decode cX11_law 0 = .ok (.aload_n 0, 1) := by decide +kernel
theorem dX11_law_1 : decode cX11_law 1 = .ok (.invokevirtual 86, 3) := by decide +kernel
theorem dX11_law_4 : decode cX11_law 4 = .ok (.aload_n 0, 1) := by decide +kernel
theorem dX11_law_5 : decode cX11_law 5 = .ok (.getfield 40, 3) := by decide +kernel
theorem dX11_law_8 : decode cX11_law 8 = .ok (.aload_n 0, 1) := by decide +kernel
theorem dX11_law_9 : decode cX11_law 9 = .ok (.getfield 34, 3) := by decide +kernel
theorem dX11_law_12 : decode cX11_law 12 = .ok (.invokestatic 111, 3) := by decide +kernel
theorem dX11_law_15 : decode cX11_law 15 = .ok (.aload_n 0, 1) := by decide +kernel
theorem dX11_law_16 : decode cX11_law 16 = .ok (.invokevirtual 99, 3) := by decide +kernel
theorem dX11_law_19 : decode cX11_law 19 = .ok (.aload_n 0, 1) := by decide +kernel
theorem dX11_law_20 : decode cX11_law 20 = .ok (.getfield 30, 3) := by decide +kernel
theorem dX11_law_23 : decode cX11_law 23 = .ok (.astore_n 1, 1) := by decide +kernel
theorem dX11_law_24 : decode cX11_law 24 = .ok (.aload_n 0, 1) := by decide +kernel
theorem dX11_law_25 : decode cX11_law 25 = .ok (.aload_n 0, 1) := by decide +kernel
theorem dX11_law_26 : decode cX11_law 26 = .ok (.getfield 34, 3) := by decide +kernel
theorem dX11_law_29 : decode cX11_law 29 = .ok (.putfield 30, 3) := by decide +kernel
theorem dX11_law_32 : decode cX11_law 32 = .ok (.aload_n 0, 1) := by decide +kernel
theorem dX11_law_33 : decode cX11_law 33 = .ok (.aload_n 1, 1) := by decide +kernel
theorem dX11_law_34 : decode cX11_law 34 = .ok (.putfield 34, 3) := by decide +kernel
theorem dX11_law_37 : decode cX11_law 37 = .ok (.aload_n 0, 1) := by decide +kernel
theorem dX11_law_38 : decode cX11_law 38 = .ok (.getfield 47, 3) := by decide +kernel
theorem dX11_law_41 : decode cX11_law 41 = .ok (.invokevirtual 108, 3) := by decide +kernel
theorem dX11_law_44 : decode cX11_law 44 = .ok (.aload_n 0, 1) := by decide +kernel
theorem dX11_law_45 : decode cX11_law 45 = .ok (.getfield 30, 3) := by decide +kernel
theorem dX11_law_48 : decode cX11_law 48 = .ok (.getfield 116, 3) := by decide +kernel
theorem dX11_law_51 : decode cX11_law 51 = .ok (.ireturn, 1) := by decide +kernel
theorem dX11_cutTape_0 : decode cX11_cutTape 0 = .ok (.aload_n 0, 1) := by decide +kernel
theorem dX11_cutTape_1 : decode cX11_cutTape 1 = .ok (.getfield 40, 3) := by decide +kernel
theorem dX11_cutTape_4 : decode cX11_cutTape 4 = .ok (.aload_n 0, 1) := by decide +kernel
theorem dX11_cutTape_5 : decode cX11_cutTape 5 = .ok (.getfield 9, 3) := by decide +kernel
theorem dX11_cutTape_8 : decode cX11_cutTape 8 = .ok (.aload_n 0, 1) := by decide +kernel
theorem dX11_cutTape_9 : decode cX11_cutTape 9 = .ok (.getfield 79, 3) := by decide +kernel
theorem dX11_cutTape_12 : decode cX11_cutTape 12 = .ok (.invokevirtual 119, 3) := by decide +kernel
theorem dX11_cutTape_15 : decode cX11_cutTape 15 = .ok (.aload_n 0, 1) := by decide +kernel
theorem dX11_cutTape_16 : decode cX11_cutTape 16 = .ok (.iconst 0, 1) := by decide +kernel
theorem dX11_cutTape_17 : decode cX11_cutTape 17 = .ok (.putfield 79, 3) := by decide +kernel
theorem dX11_cutTape_20 : decode cX11_cutTape 20 = .ok (.return_, 1) := by decide +kernel
theorem dX11_checkText_0 : decode cX11_checkText 0 = .ok (.aload_n 0, 1) := by decide +kernel
theorem dX11_checkText_1 : decode cX11_checkText 1 = .ok (.aload_n 0, 1) := by decide +kernel
theorem dX11_checkText_2 : decode cX11_checkText 2 = .ok (.getfield 40, 3) := by decide +kernel
theorem dX11_checkText_5 : decode cX11_checkText 5 = .ok (.getfield 123, 3) := by decide +kernel
theorem dX11_checkText_8 : decode cX11_checkText 8 = .ok (.putfield 13, 3) := by decide +kernel
theorem dX11_checkText_11 : decode cX11_checkText 11 = .ok (.aload_n 0, 1) := by decide +kernel
theorem dX11_checkText_12 : decode cX11_checkText 12 = .ok (.getfield 13, 3) := by decide +kernel
theorem dX11_checkText_15 : decode cX11_checkText 15 = .ok (.iconst (-1), 1) := by decide +kernel
theorem dX11_checkText_16 : decode cX11_checkText 16 = .ok (.if_icmp .eq 11, 3) := by decide +kernel
theorem dX11_checkText_19 : decode cX11_checkText 19 = .ok (.new 126, 3) := by decide +kernel
theorem dX11_checkText_22 : decode cX11_checkText 22 = .ok (.dup, 1) := by decide +kernel
theorem dX11_checkText_23 : decode cX11_checkText 23 = .ok (.invokespecial 128, 3) := by decide +kernel
theorem dX11_checkText_26 : decode cX11_checkText 26 = .ok (.athrow, 1) := by decide +kernel
theorem dX11_checkText_27 : decode cX11_checkText 27 = .ok (.return_, 1) := by decide +kernel
theorem dX11_fault_0 : decode cX11_fault 0 = .ok (.aload_n 0, 1) := by decide +kernel
theorem dX11_fault_1 : decode cX11_fault 1 = .ok (.getfield 13, 3) := by decide +kernel
theorem dX11_fault_4 : decode cX11_fault 4 = .ok (.ireturn, 1) := by decide +kernel
theorem dX11_part_0 : decode cX11_part 0 = .ok (.iload_n 1, 1) := by decide +kernel
theorem dX11_part_1 : decode cX11_part 1 = .ok (.invokestatic 129, 3) := by decide +kernel
theorem dX11_part_4 : decode cX11_part 4 = .ok (.aload_n 0, 1) := by decide +kernel
theorem dX11_part_5 : decode cX11_part 5 = .ok (.getfield 20, 3) := by decide +kernel
theorem dX11_part_8 : decode cX11_part 8 = .ok (.getfield 132, 3) := by decide +kernel
theorem dX11_part_11 : decode cX11_part 11 = .ok (.astore_n 3, 1) := by decide +kernel
theorem dX11_part_12 : decode cX11_part 12 = .ok (.iload_n 2, 1) := by decide +kernel
theorem dX11_part_13 : decode cX11_part 13 = .ok (.tableswitch 161 0 10 #[59, 66, 73, 80, 87, 101, 108, 118, 128, 138, 144], 59) := by decide +kernel
theorem dX11_part_72 : decode cX11_part 72 = .ok (.aload_n 3, 1) := by decide +kernel
theorem dX11_part_73 : decode cX11_part 73 = .ok (.getfield 135, 3) := by decide +kernel
theorem dX11_part_76 : decode cX11_part 76 = .ok (.iload_n 1, 1) := by decide +kernel
theorem dX11_part_77 : decode cX11_part 77 = .ok (.iaload, 1) := by decide +kernel
theorem dX11_part_78 : decode cX11_part 78 = .ok (.ireturn, 1) := by decide +kernel
theorem dX11_part_79 : decode cX11_part 79 = .ok (.aload_n 3, 1) := by decide +kernel
theorem dX11_part_80 : decode cX11_part 80 = .ok (.getfield 138, 3) := by decide +kernel
theorem dX11_part_83 : decode cX11_part 83 = .ok (.iload_n 1, 1) := by decide +kernel
theorem dX11_part_84 : decode cX11_part 84 = .ok (.iaload, 1) := by decide +kernel
theorem dX11_part_85 : decode cX11_part 85 = .ok (.ireturn, 1) := by decide +kernel
theorem dX11_part_86 : decode cX11_part 86 = .ok (.aload_n 3, 1) := by decide +kernel
theorem dX11_part_87 : decode cX11_part 87 = .ok (.getfield 141, 3) := by decide +kernel
theorem dX11_part_90 : decode cX11_part 90 = .ok (.iload_n 1, 1) := by decide +kernel
theorem dX11_part_91 : decode cX11_part 91 = .ok (.iaload, 1) := by decide +kernel
theorem dX11_part_92 : decode cX11_part 92 = .ok (.ireturn, 1) := by decide +kernel
theorem dX11_part_93 : decode cX11_part 93 = .ok (.aload_n 3, 1) := by decide +kernel
theorem dX11_part_94 : decode cX11_part 94 = .ok (.getfield 144, 3) := by decide +kernel
theorem dX11_part_97 : decode cX11_part 97 = .ok (.iload_n 1, 1) := by decide +kernel
theorem dX11_part_98 : decode cX11_part 98 = .ok (.iaload, 1) := by decide +kernel
theorem dX11_part_99 : decode cX11_part 99 = .ok (.ireturn, 1) := by decide +kernel
theorem dX11_part_100 : decode cX11_part 100 = .ok (.aload_n 3, 1) := by decide +kernel
theorem dX11_part_101 : decode cX11_part 101 = .ok (.iload_n 1, 1) := by decide +kernel
theorem dX11_part_102 : decode cX11_part 102 = .ok (.invokevirtual 147, 3) := by decide +kernel
theorem dX11_part_105 : decode cX11_part 105 = .ok (.ifCond .eq 7, 3) := by decide +kernel
theorem dX11_part_108 : decode cX11_part 108 = .ok (.iconst 1, 1) := by decide +kernel
theorem dX11_part_109 : decode cX11_part 109 = .ok (.goto 4, 3) := by decide +kernel
theorem dX11_part_112 : decode cX11_part 112 = .ok (.iconst 0, 1) := by decide +kernel
theorem dX11_part_113 : decode cX11_part 113 = .ok (.ireturn, 1) := by decide +kernel
theorem dX11_part_114 : decode cX11_part 114 = .ok (.aload_n 3, 1) := by decide +kernel
theorem dX11_part_115 : decode cX11_part 115 = .ok (.getfield 151, 3) := by decide +kernel
theorem dX11_part_118 : decode cX11_part 118 = .ok (.iload_n 1, 1) := by decide +kernel
theorem dX11_part_119 : decode cX11_part 119 = .ok (.iaload, 1) := by decide +kernel
theorem dX11_part_120 : decode cX11_part 120 = .ok (.ireturn, 1) := by decide +kernel
theorem dX11_part_121 : decode cX11_part 121 = .ok (.aload_n 0, 1) := by decide +kernel
theorem dX11_part_122 : decode cX11_part 122 = .ok (.getfield 30, 3) := by decide +kernel
theorem dX11_part_125 : decode cX11_part 125 = .ok (.aload_n 3, 1) := by decide +kernel
theorem dX11_part_126 : decode cX11_part 126 = .ok (.iload_n 1, 1) := by decide +kernel
theorem dX11_part_127 : decode cX11_part 127 = .ok (.invokevirtual 154, 3) := by decide +kernel
theorem dX11_part_130 : decode cX11_part 130 = .ok (.ireturn, 1) := by decide +kernel
theorem dX11_part_131 : decode cX11_part 131 = .ok (.aload_n 0, 1) := by decide +kernel
theorem dX11_part_132 : decode cX11_part 132 = .ok (.getfield 30, 3) := by decide +kernel
theorem dX11_part_135 : decode cX11_part 135 = .ok (.aload_n 3, 1) := by decide +kernel
theorem dX11_part_136 : decode cX11_part 136 = .ok (.iload_n 1, 1) := by decide +kernel
theorem dX11_part_137 : decode cX11_part 137 = .ok (.invokevirtual 158, 3) := by decide +kernel
theorem dX11_part_140 : decode cX11_part 140 = .ok (.ireturn, 1) := by decide +kernel
theorem dX11_part_141 : decode cX11_part 141 = .ok (.aload_n 0, 1) := by decide +kernel
theorem dX11_part_142 : decode cX11_part 142 = .ok (.getfield 30, 3) := by decide +kernel
theorem dX11_part_145 : decode cX11_part 145 = .ok (.aload_n 3, 1) := by decide +kernel
theorem dX11_part_146 : decode cX11_part 146 = .ok (.iload_n 1, 1) := by decide +kernel
theorem dX11_part_147 : decode cX11_part 147 = .ok (.invokevirtual 161, 3) := by decide +kernel
theorem dX11_part_150 : decode cX11_part 150 = .ok (.ireturn, 1) := by decide +kernel
theorem dX11_part_151 : decode cX11_part 151 = .ok (.aload_n 0, 1) := by decide +kernel
theorem dX11_part_152 : decode cX11_part 152 = .ok (.iload_n 1, 1) := by decide +kernel
theorem dX11_part_153 : decode cX11_part 153 = .ok (.invokevirtual 164, 3) := by decide +kernel
theorem dX11_part_156 : decode cX11_part 156 = .ok (.ireturn, 1) := by decide +kernel
theorem dX11_part_157 : decode cX11_part 157 = .ok (.aload_n 3, 1) := by decide +kernel
theorem dX11_part_158 : decode cX11_part 158 = .ok (.getfield 144, 3) := by decide +kernel
theorem dX11_part_161 : decode cX11_part 161 = .ok (.iload_n 1, 1) := by decide +kernel
theorem dX11_part_162 : decode cX11_part 162 = .ok (.iaload, 1) := by decide +kernel
theorem dX11_part_163 : decode cX11_part 163 = .ok (.aload_n 0, 1) := by decide +kernel
theorem dX11_part_164 : decode cX11_part 164 = .ok (.getfield 20, 3) := by decide +kernel
theorem dX11_part_167 : decode cX11_part 167 = .ok (.invokevirtual 168, 3) := by decide +kernel
theorem dX11_part_170 : decode cX11_part 170 = .ok (.iconst (-1), 1) := by decide +kernel
theorem dX11_part_171 : decode cX11_part 171 = .ok (.ixor, 1) := by decide +kernel
theorem dX11_part_172 : decode cX11_part 172 = .ok (.iand, 1) := by decide +kernel
theorem dX11_part_173 : decode cX11_part 173 = .ok (.ireturn, 1) := by decide +kernel
theorem dX11_part_174 : decode cX11_part 174 = .ok (.new 172, 3) := by decide +kernel
theorem dX11_part_177 : decode cX11_part 177 = .ok (.dup, 1) := by decide +kernel
theorem dX11_part_178 : decode cX11_part 178 = .ok (.invokespecial 174, 3) := by decide +kernel
theorem dX11_part_181 : decode cX11_part 181 = .ok (.athrow, 1) := by decide +kernel
theorem dX11_shareOf_0 : decode cX11_shareOf 0 = .ok (.aload_n 0, 1) := by decide +kernel
theorem dX11_shareOf_1 : decode cX11_shareOf 1 = .ok (.getfield 30, 3) := by decide +kernel
theorem dX11_shareOf_4 : decode cX11_shareOf 4 = .ok (.aload_n 0, 1) := by decide +kernel
theorem dX11_shareOf_5 : decode cX11_shareOf 5 = .ok (.getfield 20, 3) := by decide +kernel
theorem dX11_shareOf_8 : decode cX11_shareOf 8 = .ok (.getfield 132, 3) := by decide +kernel
theorem dX11_shareOf_11 : decode cX11_shareOf 11 = .ok (.invokevirtual 175, 3) := by decide +kernel
theorem dX11_shareOf_14 : decode cX11_shareOf 14 = .ok (.istore_n 2, 1) := by decide +kernel
theorem dX11_shareOf_15 : decode cX11_shareOf 15 = .ok (.iload_n 2, 1) := by decide +kernel
theorem dX11_shareOf_16 : decode cX11_shareOf 16 = .ok (.ifCond .ne 7, 3) := by decide +kernel
theorem dX11_shareOf_19 : decode cX11_shareOf 19 = .ok (.iconst 0, 1) := by decide +kernel
theorem dX11_shareOf_20 : decode cX11_shareOf 20 = .ok (.goto 23, 3) := by decide +kernel
theorem dX11_shareOf_23 : decode cX11_shareOf 23 = .ok (.aload_n 0, 1) := by decide +kernel
theorem dX11_shareOf_24 : decode cX11_shareOf 24 = .ok (.getfield 30, 3) := by decide +kernel
theorem dX11_shareOf_27 : decode cX11_shareOf 27 = .ok (.aload_n 0, 1) := by decide +kernel
theorem dX11_shareOf_28 : decode cX11_shareOf 28 = .ok (.getfield 20, 3) := by decide +kernel
theorem dX11_shareOf_31 : decode cX11_shareOf 31 = .ok (.getfield 132, 3) := by decide +kernel
theorem dX11_shareOf_34 : decode cX11_shareOf 34 = .ok (.iload_n 1, 1) := by decide +kernel
theorem dX11_shareOf_35 : decode cX11_shareOf 35 = .ok (.invokevirtual 154, 3) := by decide +kernel
theorem dX11_shareOf_38 : decode cX11_shareOf 38 = .ok (.bipush 100, 2) := by decide +kernel
theorem dX11_shareOf_40 : decode cX11_shareOf 40 = .ok (.imul, 1) := by decide +kernel
theorem dX11_shareOf_41 : decode cX11_shareOf 41 = .ok (.iload_n 2, 1) := by decide +kernel
theorem dX11_shareOf_42 : decode cX11_shareOf 42 = .ok (.idiv, 1) := by decide +kernel
theorem dX11_shareOf_43 : decode cX11_shareOf 43 = .ok (.ireturn, 1) := by decide +kernel
theorem dX11_soap_0 : decode cX11_soap 0 = .ok (.aload_n 0, 1) := by decide +kernel
theorem dX11_soap_1 : decode cX11_soap 1 = .ok (.iload_n 1, 1) := by decide +kernel
theorem dX11_soap_2 : decode cX11_soap 2 = .ok (.invokevirtual 179, 3) := by decide +kernel
theorem dX11_soap_5 : decode cX11_soap 5 = .ok (.iload_n 2, 1) := by decide +kernel
theorem dX11_soap_6 : decode cX11_soap 6 = .ok (.tableswitch 66 0 3 #[30, 39, 48, 57], 30) := by decide +kernel
theorem dX11_soap_36 : decode cX11_soap 36 = .ok (.aload_n 0, 1) := by decide +kernel
theorem dX11_soap_37 : decode cX11_soap 37 = .ok (.getfield 20, 3) := by decide +kernel
theorem dX11_soap_40 : decode cX11_soap 40 = .ok (.iload_n 1, 1) := by decide +kernel
theorem dX11_soap_41 : decode cX11_soap 41 = .ok (.invokevirtual 182, 3) := by decide +kernel
theorem dX11_soap_44 : decode cX11_soap 44 = .ok (.ireturn, 1) := by decide +kernel
theorem dX11_soap_45 : decode cX11_soap 45 = .ok (.aload_n 0, 1) := by decide +kernel
theorem dX11_soap_46 : decode cX11_soap 46 = .ok (.getfield 20, 3) := by decide +kernel
theorem dX11_soap_49 : decode cX11_soap 49 = .ok (.iload_n 1, 1) := by decide +kernel
theorem dX11_soap_50 : decode cX11_soap 50 = .ok (.invokevirtual 185, 3) := by decide +kernel
theorem dX11_soap_53 : decode cX11_soap 53 = .ok (.ireturn, 1) := by decide +kernel
theorem dX11_soap_54 : decode cX11_soap 54 = .ok (.aload_n 0, 1) := by decide +kernel
theorem dX11_soap_55 : decode cX11_soap 55 = .ok (.getfield 20, 3) := by decide +kernel
theorem dX11_soap_58 : decode cX11_soap 58 = .ok (.iload_n 1, 1) := by decide +kernel
theorem dX11_soap_59 : decode cX11_soap 59 = .ok (.invokevirtual 188, 3) := by decide +kernel
theorem dX11_soap_62 : decode cX11_soap 62 = .ok (.ireturn, 1) := by decide +kernel
theorem dX11_soap_63 : decode cX11_soap 63 = .ok (.aload_n 0, 1) := by decide +kernel
theorem dX11_soap_64 : decode cX11_soap 64 = .ok (.getfield 20, 3) := by decide +kernel
theorem dX11_soap_67 : decode cX11_soap 67 = .ok (.iload_n 1, 1) := by decide +kernel
theorem dX11_soap_68 : decode cX11_soap 68 = .ok (.invokevirtual 191, 3) := by decide +kernel
theorem dX11_soap_71 : decode cX11_soap 71 = .ok (.ireturn, 1) := by decide +kernel
theorem dX11_soap_72 : decode cX11_soap 72 = .ok (.new 172, 3) := by decide +kernel
theorem dX11_soap_75 : decode cX11_soap 75 = .ok (.dup, 1) := by decide +kernel
theorem dX11_soap_76 : decode cX11_soap 76 = .ok (.invokespecial 174, 3) := by decide +kernel
theorem dX11_soap_79 : decode cX11_soap 79 = .ok (.athrow, 1) := by decide +kernel
theorem dX11_peg_0 : decode cX11_peg 0 = .ok (.iload_n 1, 1) := by decide +kernel
theorem dX11_peg_1 : decode cX11_peg 1 = .ok (.invokestatic 129, 3) := by decide +kernel
theorem dX11_peg_4 : decode cX11_peg 4 = .ok (.iload_n 2, 1) := by decide +kernel
theorem dX11_peg_5 : decode cX11_peg 5 = .ok (.ifCond .eq 17, 3) := by decide +kernel
theorem dX11_peg_8 : decode cX11_peg 8 = .ok (.aload_n 0, 1) := by decide +kernel
theorem dX11_peg_9 : decode cX11_peg 9 = .ok (.getfield 20, 3) := by decide +kernel
theorem dX11_peg_12 : decode cX11_peg 12 = .ok (.getfield 132, 3) := by decide +kernel
theorem dX11_peg_15 : decode cX11_peg 15 = .ok (.iload_n 1, 1) := by decide +kernel
theorem dX11_peg_16 : decode cX11_peg 16 = .ok (.invokevirtual 194, 3) := by decide +kernel
theorem dX11_peg_19 : decode cX11_peg 19 = .ok (.goto 15, 3) := by decide +kernel
theorem dX11_peg_22 : decode cX11_peg 22 = .ok (.aload_n 0, 1) := by decide +kernel
theorem dX11_peg_23 : decode cX11_peg 23 = .ok (.getfield 20, 3) := by decide +kernel
theorem dX11_peg_26 : decode cX11_peg 26 = .ok (.getfield 132, 3) := by decide +kernel
theorem dX11_peg_29 : decode cX11_peg 29 = .ok (.getfield 197, 3) := by decide +kernel
theorem dX11_peg_32 : decode cX11_peg 32 = .ok (.iload_n 1, 1) := by decide +kernel
theorem dX11_peg_33 : decode cX11_peg 33 = .ok (.iaload, 1) := by decide +kernel
theorem dX11_peg_34 : decode cX11_peg 34 = .ok (.ireturn, 1) := by decide +kernel
theorem dX11_due_0 : decode cX11_due 0 = .ok (.iload_n 1, 1) := by decide +kernel
theorem dX11_due_1 : decode cX11_due 1 = .ok (.ifCond .lt 14, 3) := by decide +kernel
theorem dX11_due_4 : decode cX11_due 4 = .ok (.iload_n 1, 1) := by decide +kernel
theorem dX11_due_5 : decode cX11_due 5 = .ok (.aload_n 0, 1) := by decide +kernel
theorem dX11_due_6 : decode cX11_due 6 = .ok (.getfield 20, 3) := by decide +kernel
theorem dX11_due_9 : decode cX11_due 9 = .ok (.getfield 200, 3) := by decide +kernel
theorem dX11_due_12 : decode cX11_due 12 = .ok (.if_icmp .lt 11, 3) := by decide +kernel
theorem dX11_due_15 : decode cX11_due 15 = .ok (.new 203, 3) := by decide +kernel
theorem dX11_due_18 : decode cX11_due 18 = .ok (.dup, 1) := by decide +kernel
theorem dX11_due_19 : decode cX11_due 19 = .ok (.invokespecial 205, 3) := by decide +kernel
theorem dX11_due_22 : decode cX11_due 22 = .ok (.athrow, 1) := by decide +kernel
theorem dX11_due_23 : decode cX11_due 23 = .ok (.iload_n 2, 1) := by decide +kernel
theorem dX11_due_24 : decode cX11_due 24 = .ok (.ifCond .eq 14, 3) := by decide +kernel
theorem dX11_due_27 : decode cX11_due 27 = .ok (.aload_n 0, 1) := by decide +kernel
theorem dX11_due_28 : decode cX11_due 28 = .ok (.getfield 20, 3) := by decide +kernel
theorem dX11_due_31 : decode cX11_due 31 = .ok (.iload_n 1, 1) := by decide +kernel
theorem dX11_due_32 : decode cX11_due 32 = .ok (.invokevirtual 206, 3) := by decide +kernel
theorem dX11_due_35 : decode cX11_due 35 = .ok (.goto 11, 3) := by decide +kernel
theorem dX11_due_38 : decode cX11_due 38 = .ok (.aload_n 0, 1) := by decide +kernel
theorem dX11_due_39 : decode cX11_due 39 = .ok (.getfield 20, 3) := by decide +kernel
theorem dX11_due_42 : decode cX11_due 42 = .ok (.iload_n 1, 1) := by decide +kernel
theorem dX11_due_43 : decode cX11_due 43 = .ok (.invokevirtual 209, 3) := by decide +kernel
theorem dX11_due_46 : decode cX11_due 46 = .ok (.ireturn, 1) := by decide +kernel
theorem dX11_checkPart_0 : decode cX11_checkPart 0 = .ok (.iload_n 0, 1) := by decide +kernel
theorem dX11_checkPart_1 : decode cX11_checkPart 1 = .ok (.ifCond .lt 9, 3) := by decide +kernel
theorem dX11_checkPart_4 : decode cX11_checkPart 4 = .ok (.iload_n 0, 1) := by decide +kernel
theorem dX11_checkPart_5 : decode cX11_checkPart 5 = .ok (.bipush 8, 2) := by decide +kernel
theorem dX11_checkPart_7 : decode cX11_checkPart 7 = .ok (.if_icmp .lt 11, 3) := by decide +kernel
theorem dX11_checkPart_10 : decode cX11_checkPart 10 = .ok (.new 203, 3) := by decide +kernel
theorem dX11_checkPart_13 : decode cX11_checkPart 13 = .ok (.dup, 1) := by decide +kernel
theorem dX11_checkPart_14 : decode cX11_checkPart 14 = .ok (.invokespecial 205, 3) := by decide +kernel
theorem dX11_checkPart_17 : decode cX11_checkPart 17 = .ok (.athrow, 1) := by decide +kernel
theorem dX11_checkPart_18 : decode cX11_checkPart 18 = .ok (.return_, 1) := by decide +kernel
theorem dX11_checkSoap_0 : decode cX11_checkSoap 0 = .ok (.iload_n 1, 1) := by decide +kernel
theorem dX11_checkSoap_1 : decode cX11_checkSoap 1 = .ok (.ifCond .lt 14, 3) := by decide +kernel
theorem dX11_checkSoap_4 : decode cX11_checkSoap 4 = .ok (.iload_n 1, 1) := by decide +kernel
theorem dX11_checkSoap_5 : decode cX11_checkSoap 5 = .ok (.aload_n 0, 1) := by decide +kernel
theorem dX11_checkSoap_6 : decode cX11_checkSoap 6 = .ok (.getfield 20, 3) := by decide +kernel
theorem dX11_checkSoap_9 : decode cX11_checkSoap 9 = .ok (.getfield 212, 3) := by decide +kernel
theorem dX11_checkSoap_12 : decode cX11_checkSoap 12 = .ok (.if_icmp .lt 11, 3) := by decide +kernel
theorem dX11_checkSoap_15 : decode cX11_checkSoap 15 = .ok (.new 203, 3) := by decide +kernel
theorem dX11_checkSoap_18 : decode cX11_checkSoap 18 = .ok (.dup, 1) := by decide +kernel
theorem dX11_checkSoap_19 : decode cX11_checkSoap 19 = .ok (.invokespecial 205, 3) := by decide +kernel
theorem dX11_checkSoap_22 : decode cX11_checkSoap 22 = .ok (.athrow, 1) := by decide +kernel
theorem dX11_checkSoap_23 : decode cX11_checkSoap 23 = .ok (.return_, 1) := by decide +kernel
theorem dX11_checkNumber_0 : decode cX11_checkNumber 0 = .ok (.iload_n 0, 1) := by decide +kernel
theorem dX11_checkNumber_1 : decode cX11_checkNumber 1 = .ok (.iload_n 1, 1) := by decide +kernel
theorem dX11_checkNumber_2 : decode cX11_checkNumber 2 = .ok (.if_icmp .lt 8, 3) := by decide +kernel
theorem dX11_checkNumber_5 : decode cX11_checkNumber 5 = .ok (.iload_n 0, 1) := by decide +kernel
theorem dX11_checkNumber_6 : decode cX11_checkNumber 6 = .ok (.iload_n 2, 1) := by decide +kernel
theorem dX11_checkNumber_7 : decode cX11_checkNumber 7 = .ok (.if_icmp .le 11, 3) := by decide +kernel
theorem dX11_checkNumber_10 : decode cX11_checkNumber 10 = .ok (.new 126, 3) := by decide +kernel
theorem dX11_checkNumber_13 : decode cX11_checkNumber 13 = .ok (.dup, 1) := by decide +kernel
theorem dX11_checkNumber_14 : decode cX11_checkNumber 14 = .ok (.invokespecial 128, 3) := by decide +kernel
theorem dX11_checkNumber_17 : decode cX11_checkNumber 17 = .ok (.athrow, 1) := by decide +kernel
theorem dX11_checkNumber_18 : decode cX11_checkNumber 18 = .ok (.return_, 1) := by decide +kernel
theorem dX11_wash_0 : decode cX11_wash 0 = .ok (.iload_n 1, 1) := by decide +kernel
theorem dX11_wash_1 : decode cX11_wash 1 = .ok (.invokestatic 129, 3) := by decide +kernel
theorem dX11_wash_4 : decode cX11_wash 4 = .ok (.aload_n 0, 1) := by decide +kernel
theorem dX11_wash_5 : decode cX11_wash 5 = .ok (.iload_n 2, 1) := by decide +kernel
theorem dX11_wash_6 : decode cX11_wash 6 = .ok (.invokevirtual 179, 3) := by decide +kernel
theorem dX11_wash_9 : decode cX11_wash 9 = .ok (.aload_n 0, 1) := by decide +kernel
theorem dX11_wash_10 : decode cX11_wash 10 = .ok (.getfield 20, 3) := by decide +kernel
theorem dX11_wash_13 : decode cX11_wash 13 = .ok (.getfield 215, 3) := by decide +kernel
theorem dX11_wash_16 : decode cX11_wash 16 = .ok (.aload_n 0, 1) := by decide +kernel
theorem dX11_wash_17 : decode cX11_wash 17 = .ok (.getfield 20, 3) := by decide +kernel
theorem dX11_wash_20 : decode cX11_wash 20 = .ok (.iload_n 2, 1) := by decide +kernel
theorem dX11_wash_21 : decode cX11_wash 21 = .ok (.invokevirtual 185, 3) := by decide +kernel
theorem dX11_wash_24 : decode cX11_wash 24 = .ok (.if_icmp .ge 11, 3) := by decide +kernel
theorem dX11_wash_27 : decode cX11_wash 27 = .ok (.new 218, 3) := by decide +kernel
theorem dX11_wash_30 : decode cX11_wash 30 = .ok (.dup, 1) := by decide +kernel
theorem dX11_wash_31 : decode cX11_wash 31 = .ok (.invokespecial 220, 3) := by decide +kernel
theorem dX11_wash_34 : decode cX11_wash 34 = .ok (.athrow, 1) := by decide +kernel
theorem dX11_wash_35 : decode cX11_wash 35 = .ok (.aload_n 0, 1) := by decide +kernel
theorem dX11_wash_36 : decode cX11_wash 36 = .ok (.getfield 47, 3) := by decide +kernel
theorem dX11_wash_39 : decode cX11_wash 39 = .ok (.aload_n 0, 1) := by decide +kernel
theorem dX11_wash_40 : decode cX11_wash 40 = .ok (.getfield 20, 3) := by decide +kernel
theorem dX11_wash_43 : decode cX11_wash 43 = .ok (.invokevirtual 221, 3) := by decide +kernel
theorem dX11_wash_46 : decode cX11_wash 46 = .ok (.aload_n 0, 1) := by decide +kernel
theorem dX11_wash_47 : decode cX11_wash 47 = .ok (.getfield 20, 3) := by decide +kernel
theorem dX11_wash_50 : decode cX11_wash 50 = .ok (.dup, 1) := by decide +kernel
theorem dX11_wash_51 : decode cX11_wash 51 = .ok (.getfield 215, 3) := by decide +kernel
theorem dX11_wash_54 : decode cX11_wash 54 = .ok (.aload_n 0, 1) := by decide +kernel
theorem dX11_wash_55 : decode cX11_wash 55 = .ok (.getfield 20, 3) := by decide +kernel
theorem dX11_wash_58 : decode cX11_wash 58 = .ok (.iload_n 2, 1) := by decide +kernel
theorem dX11_wash_59 : decode cX11_wash 59 = .ok (.invokevirtual 185, 3) := by decide +kernel
theorem dX11_wash_62 : decode cX11_wash 62 = .ok (.isub, 1) := by decide +kernel
theorem dX11_wash_63 : decode cX11_wash 63 = .ok (.putfield 215, 3) := by decide +kernel
theorem dX11_wash_66 : decode cX11_wash 66 = .ok (.aload_n 0, 1) := by decide +kernel
theorem dX11_wash_67 : decode cX11_wash 67 = .ok (.getfield 20, 3) := by decide +kernel
theorem dX11_wash_70 : decode cX11_wash 70 = .ok (.getfield 132, 3) := by decide +kernel
theorem dX11_wash_73 : decode cX11_wash 73 = .ok (.iload_n 1, 1) := by decide +kernel
theorem dX11_wash_74 : decode cX11_wash 74 = .ok (.aload_n 0, 1) := by decide +kernel
theorem dX11_wash_75 : decode cX11_wash 75 = .ok (.getfield 20, 3) := by decide +kernel
theorem dX11_wash_78 : decode cX11_wash 78 = .ok (.iload_n 2, 1) := by decide +kernel
theorem dX11_wash_79 : decode cX11_wash 79 = .ok (.invokevirtual 182, 3) := by decide +kernel
theorem dX11_wash_82 : decode cX11_wash 82 = .ok (.aload_n 0, 1) := by decide +kernel
theorem dX11_wash_83 : decode cX11_wash 83 = .ok (.getfield 20, 3) := by decide +kernel
theorem dX11_wash_86 : decode cX11_wash 86 = .ok (.iload_n 2, 1) := by decide +kernel
theorem dX11_wash_87 : decode cX11_wash 87 = .ok (.invokevirtual 188, 3) := by decide +kernel
theorem dX11_wash_90 : decode cX11_wash 90 = .ok (.aload_n 0, 1) := by decide +kernel
theorem dX11_wash_91 : decode cX11_wash 91 = .ok (.getfield 20, 3) := by decide +kernel
theorem dX11_wash_94 : decode cX11_wash 94 = .ok (.iload_n 2, 1) := by decide +kernel
theorem dX11_wash_95 : decode cX11_wash 95 = .ok (.invokevirtual 191, 3) := by decide +kernel
theorem dX11_wash_98 : decode cX11_wash 98 = .ok (.invokevirtual 224, 3) := by decide +kernel
theorem dX11_wash_101 : decode cX11_wash 101 = .ok (.istore_n 3, 1) := by decide +kernel
theorem dX11_wash_102 : decode cX11_wash 102 = .ok (.aload_n 0, 1) := by decide +kernel
theorem dX11_wash_103 : decode cX11_wash 103 = .ok (.getfield 20, 3) := by decide +kernel
theorem dX11_wash_106 : decode cX11_wash 106 = .ok (.iload_n 1, 1) := by decide +kernel
theorem dX11_wash_107 : decode cX11_wash 107 = .ok (.iload_n 2, 1) := by decide +kernel
theorem dX11_wash_108 : decode cX11_wash 108 = .ok (.iload_n 3, 1) := by decide +kernel
theorem dX11_wash_109 : decode cX11_wash 109 = .ok (.invokevirtual 228, 3) := by decide +kernel
theorem dX11_wash_112 : decode cX11_wash 112 = .ok (.iload_n 3, 1) := by decide +kernel
theorem dX11_wash_113 : decode cX11_wash 113 = .ok (.ireturn, 1) := by decide +kernel
theorem dX11_hang_0 : decode cX11_hang 0 = .ok (.iload_n 1, 1) := by decide +kernel
theorem dX11_hang_1 : decode cX11_hang 1 = .ok (.invokestatic 129, 3) := by decide +kernel
theorem dX11_hang_4 : decode cX11_hang 4 = .ok (.aload_n 0, 1) := by decide +kernel
theorem dX11_hang_5 : decode cX11_hang 5 = .ok (.getfield 47, 3) := by decide +kernel
theorem dX11_hang_8 : decode cX11_hang 8 = .ok (.aload_n 0, 1) := by decide +kernel
theorem dX11_hang_9 : decode cX11_hang 9 = .ok (.getfield 20, 3) := by decide +kernel
theorem dX11_hang_12 : decode cX11_hang 12 = .ok (.invokevirtual 221, 3) := by decide +kernel
theorem dX11_hang_15 : decode cX11_hang 15 = .ok (.aload_n 0, 1) := by decide +kernel
theorem dX11_hang_16 : decode cX11_hang 16 = .ok (.getfield 20, 3) := by decide +kernel
theorem dX11_hang_19 : decode cX11_hang 19 = .ok (.getfield 132, 3) := by decide +kernel
theorem dX11_hang_22 : decode cX11_hang 22 = .ok (.iload_n 1, 1) := by decide +kernel
theorem dX11_hang_23 : decode cX11_hang 23 = .ok (.invokevirtual 147, 3) := by decide +kernel
theorem dX11_hang_26 : decode cX11_hang 26 = .ok (.iload_n 2, 1) := by decide +kernel
theorem dX11_hang_27 : decode cX11_hang 27 = .ok (.if_icmp .eq 7, 3) := by decide +kernel
theorem dX11_hang_30 : decode cX11_hang 30 = .ok (.iconst 1, 1) := by decide +kernel
theorem dX11_hang_31 : decode cX11_hang 31 = .ok (.goto 4, 3) := by decide +kernel
theorem dX11_hang_34 : decode cX11_hang 34 = .ok (.iconst 0, 1) := by decide +kernel
theorem dX11_hang_35 : decode cX11_hang 35 = .ok (.istore_n 3, 1) := by decide +kernel
theorem dX11_hang_36 : decode cX11_hang 36 = .ok (.aload_n 0, 1) := by decide +kernel
theorem dX11_hang_37 : decode cX11_hang 37 = .ok (.getfield 20, 3) := by decide +kernel
theorem dX11_hang_40 : decode cX11_hang 40 = .ok (.getfield 132, 3) := by decide +kernel
theorem dX11_hang_43 : decode cX11_hang 43 = .ok (.iload_n 1, 1) := by decide +kernel
theorem dX11_hang_44 : decode cX11_hang 44 = .ok (.iload_n 2, 1) := by decide +kernel
theorem dX11_hang_45 : decode cX11_hang 45 = .ok (.invokevirtual 232, 3) := by decide +kernel
theorem dX11_hang_48 : decode cX11_hang 48 = .ok (.iload_n 3, 1) := by decide +kernel
theorem dX11_hang_49 : decode cX11_hang 49 = .ok (.ireturn, 1) := by decide +kernel
theorem dX11_darn_0 : decode cX11_darn 0 = .ok (.iload_n 1, 1) := by decide +kernel
theorem dX11_darn_1 : decode cX11_darn 1 = .ok (.invokestatic 129, 3) := by decide +kernel
theorem dX11_darn_4 : decode cX11_darn 4 = .ok (.aload_n 0, 1) := by decide +kernel
theorem dX11_darn_5 : decode cX11_darn 5 = .ok (.getfield 20, 3) := by decide +kernel
theorem dX11_darn_8 : decode cX11_darn 8 = .ok (.getfield 215, 3) := by decide +kernel
theorem dX11_darn_11 : decode cX11_darn 11 = .ok (.iconst 2, 1) := by decide +kernel
theorem dX11_darn_12 : decode cX11_darn 12 = .ok (.if_icmp .ge 11, 3) := by decide +kernel
theorem dX11_darn_15 : decode cX11_darn 15 = .ok (.new 218, 3) := by decide +kernel
theorem dX11_darn_18 : decode cX11_darn 18 = .ok (.dup, 1) := by decide +kernel
theorem dX11_darn_19 : decode cX11_darn 19 = .ok (.invokespecial 220, 3) := by decide +kernel
theorem dX11_darn_22 : decode cX11_darn 22 = .ok (.athrow, 1) := by decide +kernel
theorem dX11_darn_23 : decode cX11_darn 23 = .ok (.aload_n 0, 1) := by decide +kernel
theorem dX11_darn_24 : decode cX11_darn 24 = .ok (.getfield 47, 3) := by decide +kernel
theorem dX11_darn_27 : decode cX11_darn 27 = .ok (.aload_n 0, 1) := by decide +kernel
theorem dX11_darn_28 : decode cX11_darn 28 = .ok (.getfield 20, 3) := by decide +kernel
theorem dX11_darn_31 : decode cX11_darn 31 = .ok (.invokevirtual 221, 3) := by decide +kernel
theorem dX11_darn_34 : decode cX11_darn 34 = .ok (.aload_n 0, 1) := by decide +kernel
theorem dX11_darn_35 : decode cX11_darn 35 = .ok (.getfield 20, 3) := by decide +kernel
theorem dX11_darn_38 : decode cX11_darn 38 = .ok (.dup, 1) := by decide +kernel
theorem dX11_darn_39 : decode cX11_darn 39 = .ok (.getfield 215, 3) := by decide +kernel
theorem dX11_darn_42 : decode cX11_darn 42 = .ok (.iconst 2, 1) := by decide +kernel
theorem dX11_darn_43 : decode cX11_darn 43 = .ok (.isub, 1) := by decide +kernel
theorem dX11_darn_44 : decode cX11_darn 44 = .ok (.putfield 215, 3) := by decide +kernel
theorem dX11_darn_47 : decode cX11_darn 47 = .ok (.aload_n 0, 1) := by decide +kernel
theorem dX11_darn_48 : decode cX11_darn 48 = .ok (.getfield 20, 3) := by decide +kernel
theorem dX11_darn_51 : decode cX11_darn 51 = .ok (.getfield 132, 3) := by decide +kernel
theorem dX11_darn_54 : decode cX11_darn 54 = .ok (.getfield 138, 3) := by decide +kernel
theorem dX11_darn_57 : decode cX11_darn 57 = .ok (.iload_n 1, 1) := by decide +kernel
theorem dX11_darn_58 : decode cX11_darn 58 = .ok (.iconst 0, 1) := by decide +kernel
theorem dX11_darn_59 : decode cX11_darn 59 = .ok (.aload_n 0, 1) := by decide +kernel
theorem dX11_darn_60 : decode cX11_darn 60 = .ok (.getfield 20, 3) := by decide +kernel
theorem dX11_darn_63 : decode cX11_darn 63 = .ok (.getfield 132, 3) := by decide +kernel
theorem dX11_darn_66 : decode cX11_darn 66 = .ok (.getfield 138, 3) := by decide +kernel
theorem dX11_darn_69 : decode cX11_darn 69 = .ok (.iload_n 1, 1) := by decide +kernel
theorem dX11_darn_70 : decode cX11_darn 70 = .ok (.iaload, 1) := by decide +kernel
theorem dX11_darn_71 : decode cX11_darn 71 = .ok (.iconst 3, 1) := by decide +kernel
theorem dX11_darn_72 : decode cX11_darn 72 = .ok (.isub, 1) := by decide +kernel
theorem dX11_darn_73 : decode cX11_darn 73 = .ok (.invokestatic 236, 3) := by decide +kernel
theorem dX11_darn_76 : decode cX11_darn 76 = .ok (.iastore, 1) := by decide +kernel
theorem dX11_darn_77 : decode cX11_darn 77 = .ok (.aload_n 0, 1) := by decide +kernel
theorem dX11_darn_78 : decode cX11_darn 78 = .ok (.getfield 20, 3) := by decide +kernel
theorem dX11_darn_81 : decode cX11_darn 81 = .ok (.getfield 132, 3) := by decide +kernel
theorem dX11_darn_84 : decode cX11_darn 84 = .ok (.getfield 138, 3) := by decide +kernel
theorem dX11_darn_87 : decode cX11_darn 87 = .ok (.iload_n 1, 1) := by decide +kernel
theorem dX11_darn_88 : decode cX11_darn 88 = .ok (.iaload, 1) := by decide +kernel
theorem dX11_darn_89 : decode cX11_darn 89 = .ok (.ireturn, 1) := by decide +kernel
theorem dX11_move_0 : decode cX11_move 0 = .ok (.iload_n 1, 1) := by decide +kernel
theorem dX11_move_1 : decode cX11_move 1 = .ok (.invokestatic 129, 3) := by decide +kernel
theorem dX11_move_4 : decode cX11_move 4 = .ok (.iload_n 2, 1) := by decide +kernel
theorem dX11_move_5 : decode cX11_move 5 = .ok (.invokestatic 129, 3) := by decide +kernel
theorem dX11_move_8 : decode cX11_move 8 = .ok (.aload_n 0, 1) := by decide +kernel
theorem dX11_move_9 : decode cX11_move 9 = .ok (.getfield 47, 3) := by decide +kernel
theorem dX11_move_12 : decode cX11_move 12 = .ok (.aload_n 0, 1) := by decide +kernel
theorem dX11_move_13 : decode cX11_move 13 = .ok (.getfield 20, 3) := by decide +kernel
theorem dX11_move_16 : decode cX11_move 16 = .ok (.invokevirtual 221, 3) := by decide +kernel
theorem dX11_move_19 : decode cX11_move 19 = .ok (.aload_n 0, 1) := by decide +kernel
theorem dX11_move_20 : decode cX11_move 20 = .ok (.getfield 20, 3) := by decide +kernel
theorem dX11_move_23 : decode cX11_move 23 = .ok (.getfield 132, 3) := by decide +kernel
theorem dX11_move_26 : decode cX11_move 26 = .ok (.iload_n 2, 1) := by decide +kernel
theorem dX11_move_27 : decode cX11_move 27 = .ok (.invokevirtual 194, 3) := by decide +kernel
theorem dX11_move_30 : decode cX11_move 30 = .ok (.istore_n 3, 1) := by decide +kernel
theorem dX11_move_31 : decode cX11_move 31 = .ok (.aload_n 0, 1) := by decide +kernel
theorem dX11_move_32 : decode cX11_move 32 = .ok (.getfield 20, 3) := by decide +kernel
theorem dX11_move_35 : decode cX11_move 35 = .ok (.getfield 132, 3) := by decide +kernel
theorem dX11_move_38 : decode cX11_move 38 = .ok (.getfield 151, 3) := by decide +kernel
theorem dX11_move_41 : decode cX11_move 41 = .ok (.iload_n 3, 1) := by decide +kernel
theorem dX11_move_42 : decode cX11_move 42 = .ok (.aload_n 0, 1) := by decide +kernel
theorem dX11_move_43 : decode cX11_move 43 = .ok (.getfield 20, 3) := by decide +kernel
theorem dX11_move_46 : decode cX11_move 46 = .ok (.getfield 132, 3) := by decide +kernel
theorem dX11_move_49 : decode cX11_move 49 = .ok (.getfield 151, 3) := by decide +kernel
theorem dX11_move_52 : decode cX11_move 52 = .ok (.iload_n 1, 1) := by decide +kernel
theorem dX11_move_53 : decode cX11_move 53 = .ok (.iaload, 1) := by decide +kernel
theorem dX11_move_54 : decode cX11_move 54 = .ok (.iastore, 1) := by decide +kernel
theorem dX11_move_55 : decode cX11_move 55 = .ok (.aload_n 0, 1) := by decide +kernel
theorem dX11_move_56 : decode cX11_move 56 = .ok (.getfield 20, 3) := by decide +kernel
theorem dX11_move_59 : decode cX11_move 59 = .ok (.getfield 132, 3) := by decide +kernel
theorem dX11_move_62 : decode cX11_move 62 = .ok (.getfield 151, 3) := by decide +kernel
theorem dX11_move_65 : decode cX11_move 65 = .ok (.iload_n 1, 1) := by decide +kernel
theorem dX11_move_66 : decode cX11_move 66 = .ok (.iload_n 2, 1) := by decide +kernel
theorem dX11_move_67 : decode cX11_move 67 = .ok (.iastore, 1) := by decide +kernel
theorem dX11_move_68 : decode cX11_move 68 = .ok (.iload_n 3, 1) := by decide +kernel
theorem dX11_move_69 : decode cX11_move 69 = .ok (.ireturn, 1) := by decide +kernel
theorem dX11_drop_0 : decode cX11_drop 0 = .ok (.aload_n 0, 1) := by decide +kernel
theorem dX11_drop_1 : decode cX11_drop 1 = .ok (.iload_n 1, 1) := by decide +kernel
theorem dX11_drop_2 : decode cX11_drop 2 = .ok (.invokevirtual 179, 3) := by decide +kernel
theorem dX11_drop_5 : decode cX11_drop 5 = .ok (.aload_n 0, 1) := by decide +kernel
theorem dX11_drop_6 : decode cX11_drop 6 = .ok (.getfield 47, 3) := by decide +kernel
theorem dX11_drop_9 : decode cX11_drop 9 = .ok (.aload_n 0, 1) := by decide +kernel
theorem dX11_drop_10 : decode cX11_drop 10 = .ok (.getfield 20, 3) := by decide +kernel
theorem dX11_drop_13 : decode cX11_drop 13 = .ok (.invokevirtual 221, 3) := by decide +kernel
theorem dX11_drop_16 : decode cX11_drop 16 = .ok (.aload_n 0, 1) := by decide +kernel
theorem dX11_drop_17 : decode cX11_drop 17 = .ok (.getfield 20, 3) := by decide +kernel
theorem dX11_drop_20 : decode cX11_drop 20 = .ok (.iload_n 1, 1) := by decide +kernel
theorem dX11_drop_21 : decode cX11_drop 21 = .ok (.invokevirtual 242, 3) := by decide +kernel
theorem dX11_drop_24 : decode cX11_drop 24 = .ok (.aload_n 0, 1) := by decide +kernel
theorem dX11_drop_25 : decode cX11_drop 25 = .ok (.getfield 20, 3) := by decide +kernel
theorem dX11_drop_28 : decode cX11_drop 28 = .ok (.getfield 212, 3) := by decide +kernel
theorem dX11_drop_31 : decode cX11_drop 31 = .ok (.ireturn, 1) := by decide +kernel
theorem dX11_nights_0 : decode cX11_nights 0 = .ok (.iload_n 1, 1) := by decide +kernel
theorem dX11_nights_1 : decode cX11_nights 1 = .ok (.iconst 1, 1) := by decide +kernel
theorem dX11_nights_2 : decode cX11_nights 2 = .ok (.bipush 60, 2) := by decide +kernel
theorem dX11_nights_4 : decode cX11_nights 4 = .ok (.invokestatic 245, 3) := by decide +kernel
theorem dX11_nights_7 : decode cX11_nights 7 = .ok (.aload_n 0, 1) := by decide +kernel
theorem dX11_nights_8 : decode cX11_nights 8 = .ok (.getfield 47, 3) := by decide +kernel
theorem dX11_nights_11 : decode cX11_nights 11 = .ok (.aload_n 0, 1) := by decide +kernel
theorem dX11_nights_12 : decode cX11_nights 12 = .ok (.getfield 20, 3) := by decide +kernel
theorem dX11_nights_15 : decode cX11_nights 15 = .ok (.invokevirtual 221, 3) := by decide +kernel
theorem dX11_nights_18 : decode cX11_nights 18 = .ok (.iconst 0, 1) := by decide +kernel
theorem dX11_nights_19 : decode cX11_nights 19 = .ok (.istore_n 2, 1) := by decide +kernel
theorem dX11_nights_20 : decode cX11_nights 20 = .ok (.iconst 0, 1) := by decide +kernel
theorem dX11_nights_21 : decode cX11_nights 21 = .ok (.istore_n 3, 1) := by decide +kernel
theorem dX11_nights_22 : decode cX11_nights 22 = .ok (.iload_n 3, 1) := by decide +kernel
theorem dX11_nights_23 : decode cX11_nights 23 = .ok (.iload_n 1, 1) := by decide +kernel
theorem dX11_nights_24 : decode cX11_nights 24 = .ok (.if_icmp .ge 23, 3) := by decide +kernel
theorem dX11_nights_27 : decode cX11_nights 27 = .ok (.iload_n 2, 1) := by decide +kernel
theorem dX11_nights_28 : decode cX11_nights 28 = .ok (.aload_n 0, 1) := by decide +kernel
theorem dX11_nights_29 : decode cX11_nights 29 = .ok (.getfield 20, 3) := by decide +kernel
theorem dX11_nights_32 : decode cX11_nights 32 = .ok (.aload_n 0, 1) := by decide +kernel
theorem dX11_nights_33 : decode cX11_nights 33 = .ok (.getfield 30, 3) := by decide +kernel
theorem dX11_nights_36 : decode cX11_nights 36 = .ok (.invokevirtual 248, 3) := by decide +kernel
theorem dX11_nights_39 : decode cX11_nights 39 = .ok (.iadd, 1) := by decide +kernel
theorem dX11_nights_40 : decode cX11_nights 40 = .ok (.istore_n 2, 1) := by decide +kernel
theorem dX11_nights_41 : decode cX11_nights 41 = .ok (.iinc 3 1, 3) := by decide +kernel
theorem dX11_nights_44 : decode cX11_nights 44 = .ok (.goto (-22), 3) := by decide +kernel
theorem dX11_nights_47 : decode cX11_nights 47 = .ok (.iload_n 2, 1) := by decide +kernel
theorem dX11_nights_48 : decode cX11_nights 48 = .ok (.ireturn, 1) := by decide +kernel
theorem dX11_seed_0 : decode cX11_seed 0 = .ok (.aload_n 0, 1) := by decide +kernel
theorem dX11_seed_1 : decode cX11_seed 1 = .ok (.getfield 20, 3) := by decide +kernel
theorem dX11_seed_4 : decode cX11_seed 4 = .ok (.getfield 252, 3) := by decide +kernel
theorem dX11_seed_7 : decode cX11_seed 7 = .ok (.istore_n 2, 1) := by decide +kernel
theorem dX11_seed_8 : decode cX11_seed 8 = .ok (.aload_n 0, 1) := by decide +kernel
theorem dX11_seed_9 : decode cX11_seed 9 = .ok (.getfield 20, 3) := by decide +kernel
theorem dX11_seed_12 : decode cX11_seed 12 = .ok (.iload_n 1, 1) := by decide +kernel
theorem dX11_seed_13 : decode cX11_seed 13 = .ok (.putfield 252, 3) := by decide +kernel
theorem dX11_seed_16 : decode cX11_seed 16 = .ok (.iload_n 2, 1) := by decide +kernel
theorem dX11_seed_17 : decode cX11_seed 17 = .ok (.ireturn, 1) := by decide +kernel
theorem dX11_undo_0 : decode cX11_undo 0 = .ok (.aload_n 0, 1) := by decide +kernel
theorem dX11_undo_1 : decode cX11_undo 1 = .ok (.getfield 47, 3) := by decide +kernel
theorem dX11_undo_4 : decode cX11_undo 4 = .ok (.aload_n 0, 1) := by decide +kernel
theorem dX11_undo_5 : decode cX11_undo 5 = .ok (.getfield 20, 3) := by decide +kernel
theorem dX11_undo_8 : decode cX11_undo 8 = .ok (.invokevirtual 255, 3) := by decide +kernel
theorem dX11_undo_11 : decode cX11_undo 11 = .ok (.ireturn, 1) := by decide +kernel
theorem dX11_image_0 : decode cX11_image 0 = .ok (.aload_n 0, 1) := by decide +kernel
theorem dX11_image_1 : decode cX11_image 1 = .ok (.getfield 54, 3) := by decide +kernel
theorem dX11_image_4 : decode cX11_image 4 = .ok (.aload_n 0, 1) := by decide +kernel
theorem dX11_image_5 : decode cX11_image 5 = .ok (.getfield 20, 3) := by decide +kernel
theorem dX11_image_8 : decode cX11_image 8 = .ok (.aload_n 0, 1) := by decide +kernel
theorem dX11_image_9 : decode cX11_image 9 = .ok (.getfield 30, 3) := by decide +kernel
theorem dX11_image_12 : decode cX11_image 12 = .ok (.invokevirtual 259, 3) := by decide +kernel
theorem dX11_image_15 : decode cX11_image 15 = .ok (.return_, 1) := by decide +kernel
theorem dX11_back_0 : decode cX11_back 0 = .ok (.aload_n 0, 1) := by decide +kernel
theorem dX11_back_1 : decode cX11_back 1 = .ok (.getfield 54, 3) := by decide +kernel
theorem dX11_back_4 : decode cX11_back 4 = .ok (.getfield 262, 3) := by decide +kernel
theorem dX11_back_7 : decode cX11_back 7 = .ok (.ifCond .ne 5, 3) := by decide +kernel
theorem dX11_back_10 : decode cX11_back 10 = .ok (.iconst 0, 1) := by decide +kernel
theorem dX11_back_11 : decode cX11_back 11 = .ok (.ireturn, 1) := by decide +kernel
theorem dX11_back_12 : decode cX11_back 12 = .ok (.aload_n 0, 1) := by decide +kernel
theorem dX11_back_13 : decode cX11_back 13 = .ok (.getfield 20, 3) := by decide +kernel
theorem dX11_back_16 : decode cX11_back 16 = .ok (.aload_n 0, 1) := by decide +kernel
theorem dX11_back_17 : decode cX11_back 17 = .ok (.getfield 54, 3) := by decide +kernel
theorem dX11_back_20 : decode cX11_back 20 = .ok (.getfield 266, 3) := by decide +kernel
theorem dX11_back_23 : decode cX11_back 23 = .ok (.invokevirtual 89, 3) := by decide +kernel
theorem dX11_back_26 : decode cX11_back 26 = .ok (.aload_n 0, 1) := by decide +kernel
theorem dX11_back_27 : decode cX11_back 27 = .ok (.getfield 30, 3) := by decide +kernel
theorem dX11_back_30 : decode cX11_back 30 = .ok (.aload_n 0, 1) := by decide +kernel
theorem dX11_back_31 : decode cX11_back 31 = .ok (.getfield 54, 3) := by decide +kernel
theorem dX11_back_34 : decode cX11_back 34 = .ok (.getfield 269, 3) := by decide +kernel
theorem dX11_back_37 : decode cX11_back 37 = .ok (.invokevirtual 270, 3) := by decide +kernel
theorem dX11_back_40 : decode cX11_back 40 = .ok (.aload_n 0, 1) := by decide +kernel
theorem dX11_back_41 : decode cX11_back 41 = .ok (.getfield 47, 3) := by decide +kernel
theorem dX11_back_44 : decode cX11_back 44 = .ok (.invokevirtual 108, 3) := by decide +kernel
theorem dX11_back_47 : decode cX11_back 47 = .ok (.iconst 1, 1) := by decide +kernel
theorem dX11_back_48 : decode cX11_back 48 = .ok (.ireturn, 1) := by decide +kernel
theorem dX11_shines_0 : decode cX11_shines 0 = .ok (.iconst 0, 1) := by decide +kernel
theorem dX11_shines_1 : decode cX11_shines 1 = .ok (.istore_n 1, 1) := by decide +kernel
theorem dX11_shines_2 : decode cX11_shines 2 = .ok (.iconst 0, 1) := by decide +kernel
theorem dX11_shines_3 : decode cX11_shines 3 = .ok (.istore_n 2, 1) := by decide +kernel
theorem dX11_shines_4 : decode cX11_shines 4 = .ok (.iload_n 2, 1) := by decide +kernel
theorem dX11_shines_5 : decode cX11_shines 5 = .ok (.bipush 8, 2) := by decide +kernel
theorem dX11_shines_7 : decode cX11_shines 7 = .ok (.if_icmp .ge 33, 3) := by decide +kernel
theorem dX11_shines_10 : decode cX11_shines 10 = .ok (.aload_n 0, 1) := by decide +kernel
theorem dX11_shines_11 : decode cX11_shines 11 = .ok (.getfield 30, 3) := by decide +kernel
theorem dX11_shines_14 : decode cX11_shines 14 = .ok (.aload_n 0, 1) := by decide +kernel
theorem dX11_shines_15 : decode cX11_shines 15 = .ok (.getfield 20, 3) := by decide +kernel
theorem dX11_shines_18 : decode cX11_shines 18 = .ok (.getfield 132, 3) := by decide +kernel
theorem dX11_shines_21 : decode cX11_shines 21 = .ok (.iload_n 2, 1) := by decide +kernel
theorem dX11_shines_22 : decode cX11_shines 22 = .ok (.invokevirtual 154, 3) := by decide +kernel
theorem dX11_shines_25 : decode cX11_shines 25 = .ok (.ifCond .le 9, 3) := by decide +kernel
theorem dX11_shines_28 : decode cX11_shines 28 = .ok (.iload_n 1, 1) := by decide +kernel
theorem dX11_shines_29 : decode cX11_shines 29 = .ok (.iconst 1, 1) := by decide +kernel
theorem dX11_shines_30 : decode cX11_shines 30 = .ok (.iload_n 2, 1) := by decide +kernel
theorem dX11_shines_31 : decode cX11_shines 31 = .ok (.ishl, 1) := by decide +kernel
theorem dX11_shines_32 : decode cX11_shines 32 = .ok (.ior, 1) := by decide +kernel
theorem dX11_shines_33 : decode cX11_shines 33 = .ok (.istore_n 1, 1) := by decide +kernel
theorem dX11_shines_34 : decode cX11_shines 34 = .ok (.iinc 2 1, 3) := by decide +kernel
theorem dX11_shines_37 : decode cX11_shines 37 = .ok (.goto (-33), 3) := by decide +kernel
theorem dX11_shines_40 : decode cX11_shines 40 = .ok (.iload_n 1, 1) := by decide +kernel
theorem dX11_shines_41 : decode cX11_shines 41 = .ok (.ireturn, 1) := by decide +kernel
theorem dX11_light_0 : decode cX11_light 0 = .ok (.aload_n 0, 1) := by decide +kernel
theorem dX11_light_1 : decode cX11_light 1 = .ok (.getfield 30, 3) := by decide +kernel
theorem dX11_light_4 : decode cX11_light 4 = .ok (.aload_n 0, 1) := by decide +kernel
theorem dX11_light_5 : decode cX11_light 5 = .ok (.getfield 20, 3) := by decide +kernel
theorem dX11_light_8 : decode cX11_light 8 = .ok (.getfield 132, 3) := by decide +kernel
theorem dX11_light_11 : decode cX11_light 11 = .ok (.invokevirtual 175, 3) := by decide +kernel
theorem dX11_light_14 : decode cX11_light 14 = .ok (.ireturn, 1) := by decide +kernel
theorem dX11_row_0 : decode cX11_row 0 = .ok (.aload_n 0, 1) := by decide +kernel
theorem dX11_row_1 : decode cX11_row 1 = .ok (.invokevirtual 273, 3) := by decide +kernel
theorem dX11_row_4 : decode cX11_row 4 = .ok (.istore_n 1, 1) := by decide +kernel
theorem dX11_row_5 : decode cX11_row 5 = .ok (.iconst 0, 1) := by decide +kernel
theorem dX11_row_6 : decode cX11_row 6 = .ok (.istore_n 2, 1) := by decide +kernel
theorem dX11_row_7 : decode cX11_row 7 = .ok (.iconst 0, 1) := by decide +kernel
theorem dX11_row_8 : decode cX11_row 8 = .ok (.istore_n 3, 1) := by decide +kernel
theorem dX11_row_9 : decode cX11_row 9 = .ok (.iconst 0, 1) := by decide +kernel
theorem dX11_row_10 : decode cX11_row 10 = .ok (.istore 4, 2) := by decide +kernel
theorem dX11_row_12 : decode cX11_row 12 = .ok (.iload 4, 2) := by decide +kernel
theorem dX11_row_14 : decode cX11_row 14 = .ok (.bipush 16, 2) := by decide +kernel
theorem dX11_row_16 : decode cX11_row 16 = .ok (.if_icmp .ge 36, 3) := by decide +kernel
theorem dX11_row_19 : decode cX11_row 19 = .ok (.iload_n 1, 1) := by decide +kernel
theorem dX11_row_20 : decode cX11_row 20 = .ok (.iload 4, 2) := by decide +kernel
theorem dX11_row_22 : decode cX11_row 22 = .ok (.bipush 8, 2) := by decide +kernel
theorem dX11_row_24 : decode cX11_row 24 = .ok (.irem, 1) := by decide +kernel
theorem dX11_row_25 : decode cX11_row 25 = .ok (.ishr, 1) := by decide +kernel
theorem dX11_row_26 : decode cX11_row 26 = .ok (.iconst 1, 1) := by decide +kernel
theorem dX11_row_27 : decode cX11_row 27 = .ok (.iand, 1) := by decide +kernel
theorem dX11_row_28 : decode cX11_row 28 = .ok (.iconst 1, 1) := by decide +kernel
theorem dX11_row_29 : decode cX11_row 29 = .ok (.if_icmp .ne 9, 3) := by decide +kernel
theorem dX11_row_32 : decode cX11_row 32 = .ok (.iload_n 3, 1) := by decide +kernel
theorem dX11_row_33 : decode cX11_row 33 = .ok (.iconst 1, 1) := by decide +kernel
theorem dX11_row_34 : decode cX11_row 34 = .ok (.iadd, 1) := by decide +kernel
theorem dX11_row_35 : decode cX11_row 35 = .ok (.goto 4, 3) := by decide +kernel
theorem dX11_row_38 : decode cX11_row 38 = .ok (.iconst 0, 1) := by decide +kernel
theorem dX11_row_39 : decode cX11_row 39 = .ok (.istore_n 3, 1) := by decide +kernel
theorem dX11_row_40 : decode cX11_row 40 = .ok (.iload_n 2, 1) := by decide +kernel
theorem dX11_row_41 : decode cX11_row 41 = .ok (.iload_n 3, 1) := by decide +kernel
theorem dX11_row_42 : decode cX11_row 42 = .ok (.invokestatic 236, 3) := by decide +kernel
theorem dX11_row_45 : decode cX11_row 45 = .ok (.istore_n 2, 1) := by decide +kernel
theorem dX11_row_46 : decode cX11_row 46 = .ok (.iinc 4 1, 3) := by decide +kernel
theorem dX11_row_49 : decode cX11_row 49 = .ok (.goto (-37), 3) := by decide +kernel
theorem dX11_row_52 : decode cX11_row 52 = .ok (.iload_n 2, 1) := by decide +kernel
theorem dX11_row_53 : decode cX11_row 53 = .ok (.bipush 8, 2) := by decide +kernel
theorem dX11_row_55 : decode cX11_row 55 = .ok (.invokestatic 276, 3) := by decide +kernel
theorem dX11_row_58 : decode cX11_row 58 = .ok (.ireturn, 1) := by decide +kernel
theorem dX11_darkest_0 : decode cX11_darkest 0 = .ok (.iconst 0, 1) := by decide +kernel
theorem dX11_darkest_1 : decode cX11_darkest 1 = .ok (.istore_n 1, 1) := by decide +kernel
theorem dX11_darkest_2 : decode cX11_darkest 2 = .ok (.aload_n 0, 1) := by decide +kernel
theorem dX11_darkest_3 : decode cX11_darkest 3 = .ok (.getfield 30, 3) := by decide +kernel
theorem dX11_darkest_6 : decode cX11_darkest 6 = .ok (.aload_n 0, 1) := by decide +kernel
theorem dX11_darkest_7 : decode cX11_darkest 7 = .ok (.getfield 20, 3) := by decide +kernel
theorem dX11_darkest_10 : decode cX11_darkest 10 = .ok (.getfield 132, 3) := by decide +kernel
theorem dX11_darkest_13 : decode cX11_darkest 13 = .ok (.iconst 0, 1) := by decide +kernel
theorem dX11_darkest_14 : decode cX11_darkest 14 = .ok (.invokevirtual 154, 3) := by decide +kernel
theorem dX11_darkest_17 : decode cX11_darkest 17 = .ok (.istore_n 2, 1) := by decide +kernel
theorem dX11_darkest_18 : decode cX11_darkest 18 = .ok (.iconst 1, 1) := by decide +kernel
theorem dX11_darkest_19 : decode cX11_darkest 19 = .ok (.istore_n 3, 1) := by decide +kernel
theorem dX11_darkest_20 : decode cX11_darkest 20 = .ok (.iload_n 3, 1) := by decide +kernel
theorem dX11_darkest_21 : decode cX11_darkest 21 = .ok (.bipush 8, 2) := by decide +kernel
theorem dX11_darkest_23 : decode cX11_darkest 23 = .ok (.if_icmp .ge 37, 3) := by decide +kernel
theorem dX11_darkest_26 : decode cX11_darkest 26 = .ok (.aload_n 0, 1) := by decide +kernel
theorem dX11_darkest_27 : decode cX11_darkest 27 = .ok (.getfield 30, 3) := by decide +kernel
theorem dX11_darkest_30 : decode cX11_darkest 30 = .ok (.aload_n 0, 1) := by decide +kernel
theorem dX11_darkest_31 : decode cX11_darkest 31 = .ok (.getfield 20, 3) := by decide +kernel
theorem dX11_darkest_34 : decode cX11_darkest 34 = .ok (.getfield 132, 3) := by decide +kernel
theorem dX11_darkest_37 : decode cX11_darkest 37 = .ok (.iload_n 3, 1) := by decide +kernel
theorem dX11_darkest_38 : decode cX11_darkest 38 = .ok (.invokevirtual 154, 3) := by decide +kernel
theorem dX11_darkest_41 : decode cX11_darkest 41 = .ok (.istore 4, 2) := by decide +kernel
theorem dX11_darkest_43 : decode cX11_darkest 43 = .ok (.iload 4, 2) := by decide +kernel
theorem dX11_darkest_45 : decode cX11_darkest 45 = .ok (.iload_n 2, 1) := by decide +kernel
theorem dX11_darkest_46 : decode cX11_darkest 46 = .ok (.if_icmp .ge 8, 3) := by decide +kernel
theorem dX11_darkest_49 : decode cX11_darkest 49 = .ok (.iload 4, 2) := by decide +kernel
theorem dX11_darkest_51 : decode cX11_darkest 51 = .ok (.istore_n 2, 1) := by decide +kernel
theorem dX11_darkest_52 : decode cX11_darkest 52 = .ok (.iload_n 3, 1) := by decide +kernel
theorem dX11_darkest_53 : decode cX11_darkest 53 = .ok (.istore_n 1, 1) := by decide +kernel
theorem dX11_darkest_54 : decode cX11_darkest 54 = .ok (.iinc 3 1, 3) := by decide +kernel
theorem dX11_darkest_57 : decode cX11_darkest 57 = .ok (.goto (-37), 3) := by decide +kernel
theorem dX11_darkest_60 : decode cX11_darkest 60 = .ok (.iload_n 1, 1) := by decide +kernel
theorem dX11_darkest_61 : decode cX11_darkest 61 = .ok (.ireturn, 1) := by decide +kernel
theorem dX11_halves_0 : decode cX11_halves 0 = .ok (.aload_n 0, 1) := by decide +kernel
theorem dX11_halves_1 : decode cX11_halves 1 = .ok (.getfield 30, 3) := by decide +kernel
theorem dX11_halves_4 : decode cX11_halves 4 = .ok (.aload_n 0, 1) := by decide +kernel
theorem dX11_halves_5 : decode cX11_halves 5 = .ok (.getfield 20, 3) := by decide +kernel
theorem dX11_halves_8 : decode cX11_halves 8 = .ok (.getfield 132, 3) := by decide +kernel
theorem dX11_halves_11 : decode cX11_halves 11 = .ok (.invokevirtual 175, 3) := by decide +kernel
theorem dX11_halves_14 : decode cX11_halves 14 = .ok (.istore_n 1, 1) := by decide +kernel
theorem dX11_halves_15 : decode cX11_halves 15 = .ok (.iconst 0, 1) := by decide +kernel
theorem dX11_halves_16 : decode cX11_halves 16 = .ok (.istore_n 2, 1) := by decide +kernel
theorem dX11_halves_17 : decode cX11_halves 17 = .ok (.sipush 161, 3) := by decide +kernel
theorem dX11_halves_20 : decode cX11_halves 20 = .ok (.istore_n 3, 1) := by decide +kernel
theorem dX11_halves_21 : decode cX11_halves 21 = .ok (.iconst 0, 1) := by decide +kernel
theorem dX11_halves_22 : decode cX11_halves 22 = .ok (.istore 4, 2) := by decide +kernel
theorem dX11_halves_24 : decode cX11_halves 24 = .ok (.iload 4, 2) := by decide +kernel
theorem dX11_halves_26 : decode cX11_halves 26 = .ok (.bipush 8, 2) := by decide +kernel
theorem dX11_halves_28 : decode cX11_halves 28 = .ok (.if_icmp .ge 77, 3) := by decide +kernel
theorem dX11_halves_31 : decode cX11_halves 31 = .ok (.iconst 0, 1) := by decide +kernel
theorem dX11_halves_32 : decode cX11_halves 32 = .ok (.istore 5, 2) := by decide +kernel
theorem dX11_halves_34 : decode cX11_halves 34 = .ok (.iconst 0, 1) := by decide +kernel
theorem dX11_halves_35 : decode cX11_halves 35 = .ok (.istore 6, 2) := by decide +kernel
theorem dX11_halves_37 : decode cX11_halves 37 = .ok (.iload 6, 2) := by decide +kernel
theorem dX11_halves_39 : decode cX11_halves 39 = .ok (.iconst 4, 1) := by decide +kernel
theorem dX11_halves_40 : decode cX11_halves 40 = .ok (.if_icmp .ge 36, 3) := by decide +kernel
theorem dX11_halves_43 : decode cX11_halves 43 = .ok (.iload 5, 2) := by decide +kernel
theorem dX11_halves_45 : decode cX11_halves 45 = .ok (.aload_n 0, 1) := by decide +kernel
theorem dX11_halves_46 : decode cX11_halves 46 = .ok (.getfield 30, 3) := by decide +kernel
theorem dX11_halves_49 : decode cX11_halves 49 = .ok (.aload_n 0, 1) := by decide +kernel
theorem dX11_halves_50 : decode cX11_halves 50 = .ok (.getfield 20, 3) := by decide +kernel
theorem dX11_halves_53 : decode cX11_halves 53 = .ok (.getfield 132, 3) := by decide +kernel
theorem dX11_halves_56 : decode cX11_halves 56 = .ok (.iload 4, 2) := by decide +kernel
theorem dX11_halves_58 : decode cX11_halves 58 = .ok (.iload 6, 2) := by decide +kernel
theorem dX11_halves_60 : decode cX11_halves 60 = .ok (.iadd, 1) := by decide +kernel
theorem dX11_halves_61 : decode cX11_halves 61 = .ok (.bipush 8, 2) := by decide +kernel
theorem dX11_halves_63 : decode cX11_halves 63 = .ok (.irem, 1) := by decide +kernel
theorem dX11_halves_64 : decode cX11_halves 64 = .ok (.invokevirtual 154, 3) := by decide +kernel
theorem dX11_halves_67 : decode cX11_halves 67 = .ok (.iadd, 1) := by decide +kernel
theorem dX11_halves_68 : decode cX11_halves 68 = .ok (.istore 5, 2) := by decide +kernel
theorem dX11_halves_70 : decode cX11_halves 70 = .ok (.iinc 6 1, 3) := by decide +kernel
theorem dX11_halves_73 : decode cX11_halves 73 = .ok (.goto (-36), 3) := by decide +kernel
theorem dX11_halves_76 : decode cX11_halves 76 = .ok (.iconst 2, 1) := by decide +kernel
theorem dX11_halves_77 : decode cX11_halves 77 = .ok (.iload 5, 2) := by decide +kernel
theorem dX11_halves_79 : decode cX11_halves 79 = .ok (.imul, 1) := by decide +kernel
theorem dX11_halves_80 : decode cX11_halves 80 = .ok (.iload_n 1, 1) := by decide +kernel
theorem dX11_halves_81 : decode cX11_halves 81 = .ok (.isub, 1) := by decide +kernel
theorem dX11_halves_82 : decode cX11_halves 82 = .ok (.invokestatic 279, 3) := by decide +kernel
theorem dX11_halves_85 : decode cX11_halves 85 = .ok (.istore 6, 2) := by decide +kernel
theorem dX11_halves_87 : decode cX11_halves 87 = .ok (.iload 6, 2) := by decide +kernel
theorem dX11_halves_89 : decode cX11_halves 89 = .ok (.iload_n 3, 1) := by decide +kernel
theorem dX11_halves_90 : decode cX11_halves 90 = .ok (.if_icmp .ge 9, 3) := by decide +kernel
theorem dX11_halves_93 : decode cX11_halves 93 = .ok (.iload 6, 2) := by decide +kernel
theorem dX11_halves_95 : decode cX11_halves 95 = .ok (.istore_n 3, 1) := by decide +kernel
theorem dX11_halves_96 : decode cX11_halves 96 = .ok (.iload 4, 2) := by decide +kernel
theorem dX11_halves_98 : decode cX11_halves 98 = .ok (.istore_n 2, 1) := by decide +kernel
theorem dX11_halves_99 : decode cX11_halves 99 = .ok (.iinc 4 1, 3) := by decide +kernel
theorem dX11_halves_102 : decode cX11_halves 102 = .ok (.goto (-78), 3) := by decide +kernel
theorem dX11_halves_105 : decode cX11_halves 105 = .ok (.iload_n 2, 1) := by decide +kernel
theorem dX11_halves_106 : decode cX11_halves 106 = .ok (.ireturn, 1) := by decide +kernel
theorem dX11_like_0 : decode cX11_like 0 = .ok (.aload_n 0, 1) := by decide +kernel
theorem dX11_like_1 : decode cX11_like 1 = .ok (.getfield 54, 3) := by decide +kernel
theorem dX11_like_4 : decode cX11_like 4 = .ok (.getfield 262, 3) := by decide +kernel
theorem dX11_like_7 : decode cX11_like 7 = .ok (.ifCond .ne 5, 3) := by decide +kernel
theorem dX11_like_10 : decode cX11_like 10 = .ok (.iconst (-1), 1) := by decide +kernel
theorem dX11_like_11 : decode cX11_like 11 = .ok (.ireturn, 1) := by decide +kernel
theorem dX11_like_12 : decode cX11_like 12 = .ok (.iconst 0, 1) := by decide +kernel
theorem dX11_like_13 : decode cX11_like 13 = .ok (.istore_n 1, 1) := by decide +kernel
theorem dX11_like_14 : decode cX11_like 14 = .ok (.iconst 0, 1) := by decide +kernel
theorem dX11_like_15 : decode cX11_like 15 = .ok (.istore_n 2, 1) := by decide +kernel
theorem dX11_like_16 : decode cX11_like 16 = .ok (.iload_n 2, 1) := by decide +kernel
theorem dX11_like_17 : decode cX11_like 17 = .ok (.bipush 8, 2) := by decide +kernel
theorem dX11_like_19 : decode cX11_like 19 = .ok (.if_icmp .ge 39, 3) := by decide +kernel
theorem dX11_like_22 : decode cX11_like 22 = .ok (.aload_n 0, 1) := by decide +kernel
theorem dX11_like_23 : decode cX11_like 23 = .ok (.getfield 30, 3) := by decide +kernel
theorem dX11_like_26 : decode cX11_like 26 = .ok (.aload_n 0, 1) := by decide +kernel
theorem dX11_like_27 : decode cX11_like 27 = .ok (.getfield 20, 3) := by decide +kernel
theorem dX11_like_30 : decode cX11_like 30 = .ok (.getfield 132, 3) := by decide +kernel
theorem dX11_like_33 : decode cX11_like 33 = .ok (.iload_n 2, 1) := by decide +kernel
theorem dX11_like_34 : decode cX11_like 34 = .ok (.invokevirtual 154, 3) := by decide +kernel
theorem dX11_like_37 : decode cX11_like 37 = .ok (.aload_n 0, 1) := by decide +kernel
theorem dX11_like_38 : decode cX11_like 38 = .ok (.getfield 54, 3) := by decide +kernel
theorem dX11_like_41 : decode cX11_like 41 = .ok (.getfield 282, 3) := by decide +kernel
theorem dX11_like_44 : decode cX11_like 44 = .ok (.iload_n 2, 1) := by decide +kernel
theorem dX11_like_45 : decode cX11_like 45 = .ok (.iaload, 1) := by decide +kernel
theorem dX11_like_46 : decode cX11_like 46 = .ok (.if_icmp .ne 6, 3) := by decide +kernel
theorem dX11_like_49 : decode cX11_like 49 = .ok (.iinc 1 1, 3) := by decide +kernel
theorem dX11_like_52 : decode cX11_like 52 = .ok (.iinc 2 1, 3) := by decide +kernel
theorem dX11_like_55 : decode cX11_like 55 = .ok (.goto (-39), 3) := by decide +kernel
theorem dX11_like_58 : decode cX11_like 58 = .ok (.iload_n 1, 1) := by decide +kernel
theorem dX11_like_59 : decode cX11_like 59 = .ok (.ireturn, 1) := by decide +kernel
theorem dX11_would_0 : decode cX11_would 0 = .ok (.iload_n 1, 1) := by decide +kernel
theorem dX11_would_1 : decode cX11_would 1 = .ok (.invokestatic 129, 3) := by decide +kernel
theorem dX11_would_4 : decode cX11_would 4 = .ok (.aload_n 0, 1) := by decide +kernel
theorem dX11_would_5 : decode cX11_would 5 = .ok (.iload_n 2, 1) := by decide +kernel
theorem dX11_would_6 : decode cX11_would 6 = .ok (.invokevirtual 179, 3) := by decide +kernel
theorem dX11_would_9 : decode cX11_would 9 = .ok (.aload_n 0, 1) := by decide +kernel
theorem dX11_would_10 : decode cX11_would 10 = .ok (.iload_n 1, 1) := by decide +kernel
theorem dX11_would_11 : decode cX11_would 11 = .ok (.iload_n 2, 1) := by decide +kernel
theorem dX11_would_12 : decode cX11_would 12 = .ok (.invokevirtual 285, 3) := by decide +kernel
theorem dX11_would_15 : decode cX11_would 15 = .ok (.ireturn, 1) := by decide +kernel
theorem dX11_whiteIfWashed_0 : decode cX11_whiteIfWashed 0 = .ok (.aload_n 0, 1) := by decide +kernel
theorem dX11_whiteIfWashed_1 : decode cX11_whiteIfWashed 1 = .ok (.getfield 61, 3) := by decide +kernel
theorem dX11_whiteIfWashed_4 : decode cX11_whiteIfWashed 4 = .ok (.aload_n 0, 1) := by decide +kernel
theorem dX11_whiteIfWashed_5 : decode cX11_whiteIfWashed 5 = .ok (.getfield 20, 3) := by decide +kernel
theorem dX11_whiteIfWashed_8 : decode cX11_whiteIfWashed 8 = .ok (.getfield 132, 3) := by decide +kernel
theorem dX11_whiteIfWashed_11 : decode cX11_whiteIfWashed 11 = .ok (.invokevirtual 288, 3) := by decide +kernel
theorem dX11_whiteIfWashed_14 : decode cX11_whiteIfWashed 14 = .ok (.iload_n 2, 1) := by decide +kernel
theorem dX11_whiteIfWashed_15 : decode cX11_whiteIfWashed 15 = .ok (.ifCond .lt 47, 3) := by decide +kernel
theorem dX11_whiteIfWashed_18 : decode cX11_whiteIfWashed 18 = .ok (.iload_n 2, 1) := by decide +kernel
theorem dX11_whiteIfWashed_19 : decode cX11_whiteIfWashed 19 = .ok (.aload_n 0, 1) := by decide +kernel
theorem dX11_whiteIfWashed_20 : decode cX11_whiteIfWashed 20 = .ok (.getfield 20, 3) := by decide +kernel
theorem dX11_whiteIfWashed_23 : decode cX11_whiteIfWashed 23 = .ok (.getfield 212, 3) := by decide +kernel
theorem dX11_whiteIfWashed_26 : decode cX11_whiteIfWashed 26 = .ok (.if_icmp .ge 36, 3) := by decide +kernel
theorem dX11_whiteIfWashed_29 : decode cX11_whiteIfWashed 29 = .ok (.aload_n 0, 1) := by decide +kernel
theorem dX11_whiteIfWashed_30 : decode cX11_whiteIfWashed 30 = .ok (.getfield 61, 3) := by decide +kernel
theorem dX11_whiteIfWashed_33 : decode cX11_whiteIfWashed 33 = .ok (.iload_n 1, 1) := by decide +kernel
theorem dX11_whiteIfWashed_34 : decode cX11_whiteIfWashed 34 = .ok (.aload_n 0, 1) := by decide +kernel
theorem dX11_whiteIfWashed_35 : decode cX11_whiteIfWashed 35 = .ok (.getfield 20, 3) := by decide +kernel
theorem dX11_whiteIfWashed_38 : decode cX11_whiteIfWashed 38 = .ok (.iload_n 2, 1) := by decide +kernel
theorem dX11_whiteIfWashed_39 : decode cX11_whiteIfWashed 39 = .ok (.invokevirtual 182, 3) := by decide +kernel
theorem dX11_whiteIfWashed_42 : decode cX11_whiteIfWashed 42 = .ok (.aload_n 0, 1) := by decide +kernel
theorem dX11_whiteIfWashed_43 : decode cX11_whiteIfWashed 43 = .ok (.getfield 20, 3) := by decide +kernel
theorem dX11_whiteIfWashed_46 : decode cX11_whiteIfWashed 46 = .ok (.iload_n 2, 1) := by decide +kernel
theorem dX11_whiteIfWashed_47 : decode cX11_whiteIfWashed 47 = .ok (.invokevirtual 188, 3) := by decide +kernel
theorem dX11_whiteIfWashed_50 : decode cX11_whiteIfWashed 50 = .ok (.aload_n 0, 1) := by decide +kernel
theorem dX11_whiteIfWashed_51 : decode cX11_whiteIfWashed 51 = .ok (.getfield 20, 3) := by decide +kernel
theorem dX11_whiteIfWashed_54 : decode cX11_whiteIfWashed 54 = .ok (.iload_n 2, 1) := by decide +kernel
theorem dX11_whiteIfWashed_55 : decode cX11_whiteIfWashed 55 = .ok (.invokevirtual 191, 3) := by decide +kernel
theorem dX11_whiteIfWashed_58 : decode cX11_whiteIfWashed 58 = .ok (.invokevirtual 224, 3) := by decide +kernel
theorem dX11_whiteIfWashed_61 : decode cX11_whiteIfWashed 61 = .ok (.pop, 1) := by decide +kernel
theorem dX11_whiteIfWashed_62 : decode cX11_whiteIfWashed 62 = .ok (.aload_n 0, 1) := by decide +kernel
theorem dX11_whiteIfWashed_63 : decode cX11_whiteIfWashed 63 = .ok (.getfield 61, 3) := by decide +kernel
theorem dX11_whiteIfWashed_66 : decode cX11_whiteIfWashed 66 = .ok (.getfield 141, 3) := by decide +kernel
theorem dX11_whiteIfWashed_69 : decode cX11_whiteIfWashed 69 = .ok (.iload_n 1, 1) := by decide +kernel
theorem dX11_whiteIfWashed_70 : decode cX11_whiteIfWashed 70 = .ok (.iconst 0, 1) := by decide +kernel
theorem dX11_whiteIfWashed_71 : decode cX11_whiteIfWashed 71 = .ok (.iastore, 1) := by decide +kernel
theorem dX11_whiteIfWashed_72 : decode cX11_whiteIfWashed 72 = .ok (.aload_n 0, 1) := by decide +kernel
theorem dX11_whiteIfWashed_73 : decode cX11_whiteIfWashed 73 = .ok (.getfield 61, 3) := by decide +kernel
theorem dX11_whiteIfWashed_76 : decode cX11_whiteIfWashed 76 = .ok (.iload_n 1, 1) := by decide +kernel
theorem dX11_whiteIfWashed_77 : decode cX11_whiteIfWashed 77 = .ok (.iconst 1, 1) := by decide +kernel
theorem dX11_whiteIfWashed_78 : decode cX11_whiteIfWashed 78 = .ok (.invokevirtual 232, 3) := by decide +kernel
theorem dX11_whiteIfWashed_81 : decode cX11_whiteIfWashed 81 = .ok (.aload_n 0, 1) := by decide +kernel
theorem dX11_whiteIfWashed_82 : decode cX11_whiteIfWashed 82 = .ok (.getfield 30, 3) := by decide +kernel
theorem dX11_whiteIfWashed_85 : decode cX11_whiteIfWashed 85 = .ok (.aload_n 0, 1) := by decide +kernel
theorem dX11_whiteIfWashed_86 : decode cX11_whiteIfWashed 86 = .ok (.getfield 61, 3) := by decide +kernel
theorem dX11_whiteIfWashed_89 : decode cX11_whiteIfWashed 89 = .ok (.iload_n 1, 1) := by decide +kernel
theorem dX11_whiteIfWashed_90 : decode cX11_whiteIfWashed 90 = .ok (.invokevirtual 158, 3) := by decide +kernel
theorem dX11_whiteIfWashed_93 : decode cX11_whiteIfWashed 93 = .ok (.ireturn, 1) := by decide +kernel
theorem dX11_best_0 : decode cX11_best 0 = .ok (.iload_n 1, 1) := by decide +kernel
theorem dX11_best_1 : decode cX11_best 1 = .ok (.invokestatic 129, 3) := by decide +kernel
theorem dX11_best_4 : decode cX11_best 4 = .ok (.iconst (-1), 1) := by decide +kernel
theorem dX11_best_5 : decode cX11_best 5 = .ok (.istore_n 2, 1) := by decide +kernel
theorem dX11_best_6 : decode cX11_best 6 = .ok (.iconst 0, 1) := by decide +kernel
theorem dX11_best_7 : decode cX11_best 7 = .ok (.istore_n 3, 1) := by decide +kernel
theorem dX11_best_8 : decode cX11_best 8 = .ok (.iconst 0, 1) := by decide +kernel
theorem dX11_best_9 : decode cX11_best 9 = .ok (.istore 4, 2) := by decide +kernel
theorem dX11_best_11 : decode cX11_best 11 = .ok (.iconst 0, 1) := by decide +kernel
theorem dX11_best_12 : decode cX11_best 12 = .ok (.istore 5, 2) := by decide +kernel
theorem dX11_best_14 : decode cX11_best 14 = .ok (.iload 5, 2) := by decide +kernel
theorem dX11_best_16 : decode cX11_best 16 = .ok (.aload_n 0, 1) := by decide +kernel
theorem dX11_best_17 : decode cX11_best 17 = .ok (.getfield 20, 3) := by decide +kernel
theorem dX11_best_20 : decode cX11_best 20 = .ok (.getfield 212, 3) := by decide +kernel
theorem dX11_best_23 : decode cX11_best 23 = .ok (.if_icmp .ge 78, 3) := by decide +kernel
theorem dX11_best_26 : decode cX11_best 26 = .ok (.aload_n 0, 1) := by decide +kernel
theorem dX11_best_27 : decode cX11_best 27 = .ok (.iload_n 1, 1) := by decide +kernel
theorem dX11_best_28 : decode cX11_best 28 = .ok (.iload 5, 2) := by decide +kernel
theorem dX11_best_30 : decode cX11_best 30 = .ok (.invokevirtual 285, 3) := by decide +kernel
theorem dX11_best_33 : decode cX11_best 33 = .ok (.istore 6, 2) := by decide +kernel
theorem dX11_best_35 : decode cX11_best 35 = .ok (.iload 6, 2) := by decide +kernel
theorem dX11_best_37 : decode cX11_best 37 = .ok (.iload_n 3, 1) := by decide +kernel
theorem dX11_best_38 : decode cX11_best 38 = .ok (.if_icmp .gt 23, 3) := by decide +kernel
theorem dX11_best_41 : decode cX11_best 41 = .ok (.iload 6, 2) := by decide +kernel
theorem dX11_best_43 : decode cX11_best 43 = .ok (.iload_n 3, 1) := by decide +kernel
theorem dX11_best_44 : decode cX11_best 44 = .ok (.if_icmp .ne 21, 3) := by decide +kernel
theorem dX11_best_47 : decode cX11_best 47 = .ok (.aload_n 0, 1) := by decide +kernel
theorem dX11_best_48 : decode cX11_best 48 = .ok (.getfield 20, 3) := by decide +kernel
theorem dX11_best_51 : decode cX11_best 51 = .ok (.iload 5, 2) := by decide +kernel
theorem dX11_best_53 : decode cX11_best 53 = .ok (.invokevirtual 185, 3) := by decide +kernel
theorem dX11_best_56 : decode cX11_best 56 = .ok (.iload 4, 2) := by decide +kernel
theorem dX11_best_58 : decode cX11_best 58 = .ok (.if_icmp .ge 7, 3) := by decide +kernel
theorem dX11_best_61 : decode cX11_best 61 = .ok (.iconst 1, 1) := by decide +kernel
theorem dX11_best_62 : decode cX11_best 62 = .ok (.goto 4, 3) := by decide +kernel
theorem dX11_best_65 : decode cX11_best 65 = .ok (.iconst 0, 1) := by decide +kernel
theorem dX11_best_66 : decode cX11_best 66 = .ok (.istore 7, 2) := by decide +kernel
theorem dX11_best_68 : decode cX11_best 68 = .ok (.iload_n 2, 1) := by decide +kernel
theorem dX11_best_69 : decode cX11_best 69 = .ok (.iconst (-1), 1) := by decide +kernel
theorem dX11_best_70 : decode cX11_best 70 = .ok (.if_icmp .eq 8, 3) := by decide +kernel
theorem dX11_best_73 : decode cX11_best 73 = .ok (.iload 7, 2) := by decide +kernel
theorem dX11_best_75 : decode cX11_best 75 = .ok (.ifCond .eq 20, 3) := by decide +kernel
theorem dX11_best_78 : decode cX11_best 78 = .ok (.iload 5, 2) := by decide +kernel
theorem dX11_best_80 : decode cX11_best 80 = .ok (.istore_n 2, 1) := by decide +kernel
theorem dX11_best_81 : decode cX11_best 81 = .ok (.iload 6, 2) := by decide +kernel
theorem dX11_best_83 : decode cX11_best 83 = .ok (.istore_n 3, 1) := by decide +kernel
theorem dX11_best_84 : decode cX11_best 84 = .ok (.aload_n 0, 1) := by decide +kernel
theorem dX11_best_85 : decode cX11_best 85 = .ok (.getfield 20, 3) := by decide +kernel
theorem dX11_best_88 : decode cX11_best 88 = .ok (.iload 5, 2) := by decide +kernel
theorem dX11_best_90 : decode cX11_best 90 = .ok (.invokevirtual 185, 3) := by decide +kernel
theorem dX11_best_93 : decode cX11_best 93 = .ok (.istore 4, 2) := by decide +kernel
theorem dX11_best_95 : decode cX11_best 95 = .ok (.iinc 5 1, 3) := by decide +kernel
theorem dX11_best_98 : decode cX11_best 98 = .ok (.goto (-84), 3) := by decide +kernel
theorem dX11_best_101 : decode cX11_best 101 = .ok (.iload_n 2, 1) := by decide +kernel
theorem dX11_best_102 : decode cX11_best 102 = .ok (.ireturn, 1) := by decide +kernel
theorem dX11_least_0 : decode cX11_least 0 = .ok (.iload_n 2, 1) := by decide +kernel
theorem dX11_least_1 : decode cX11_least 1 = .ok (.iconst (-1), 1) := by decide +kernel
theorem dX11_least_2 : decode cX11_least 2 = .ok (.if_icmp .eq 7, 3) := by decide +kernel
theorem dX11_least_5 : decode cX11_least 5 = .ok (.iload_n 2, 1) := by decide +kernel
theorem dX11_least_6 : decode cX11_least 6 = .ok (.invokestatic 129, 3) := by decide +kernel
theorem dX11_least_9 : decode cX11_least 9 = .ok (.iload_n 1, 1) := by decide +kernel
theorem dX11_least_10 : decode cX11_least 10 = .ok (.iconst 0, 1) := by decide +kernel
theorem dX11_least_11 : decode cX11_least 11 = .ok (.sipush 160, 3) := by decide +kernel
theorem dX11_least_14 : decode cX11_least 14 = .ok (.invokestatic 245, 3) := by decide +kernel
theorem dX11_least_17 : decode cX11_least 17 = .ok (.aload_n 0, 1) := by decide +kernel
theorem dX11_least_18 : decode cX11_least 18 = .ok (.getfield 68, 3) := by decide +kernel
theorem dX11_least_21 : decode cX11_least 21 = .ok (.aload_n 0, 1) := by decide +kernel
theorem dX11_least_22 : decode cX11_least 22 = .ok (.getfield 20, 3) := by decide +kernel
theorem dX11_least_25 : decode cX11_least 25 = .ok (.invokevirtual 291, 3) := by decide +kernel
theorem dX11_least_28 : decode cX11_least 28 = .ok (.iconst 0, 1) := by decide +kernel
theorem dX11_least_29 : decode cX11_least 29 = .ok (.istore_n 3, 1) := by decide +kernel
theorem dX11_least_30 : decode cX11_least 30 = .ok (.iload_n 3, 1) := by decide +kernel
theorem dX11_least_31 : decode cX11_least 31 = .ok (.bipush 8, 2) := by decide +kernel
theorem dX11_least_33 : decode cX11_least 33 = .ok (.if_icmp .ge 47, 3) := by decide +kernel
theorem dX11_least_36 : decode cX11_least 36 = .ok (.iconst (-1), 1) := by decide +kernel
theorem dX11_least_37 : decode cX11_least 37 = .ok (.istore 4, 2) := by decide +kernel
theorem dX11_least_39 : decode cX11_least 39 = .ok (.iload 4, 2) := by decide +kernel
theorem dX11_least_41 : decode cX11_least 41 = .ok (.aload_n 0, 1) := by decide +kernel
theorem dX11_least_42 : decode cX11_least 42 = .ok (.getfield 20, 3) := by decide +kernel
theorem dX11_least_45 : decode cX11_least 45 = .ok (.getfield 212, 3) := by decide +kernel
theorem dX11_least_48 : decode cX11_least 48 = .ok (.if_icmp .ge 26, 3) := by decide +kernel
theorem dX11_least_51 : decode cX11_least 51 = .ok (.aload_n 0, 1) := by decide +kernel
theorem dX11_least_52 : decode cX11_least 52 = .ok (.getfield 68, 3) := by decide +kernel
theorem dX11_least_55 : decode cX11_least 55 = .ok (.iload_n 3, 1) := by decide +kernel
theorem dX11_least_56 : decode cX11_least 56 = .ok (.iload 4, 2) := by decide +kernel
theorem dX11_least_58 : decode cX11_least 58 = .ok (.aload_n 0, 1) := by decide +kernel
theorem dX11_least_59 : decode cX11_least 59 = .ok (.iload_n 3, 1) := by decide +kernel
theorem dX11_least_60 : decode cX11_least 60 = .ok (.iload 4, 2) := by decide +kernel
theorem dX11_least_62 : decode cX11_least 62 = .ok (.invokevirtual 285, 3) := by decide +kernel
theorem dX11_least_65 : decode cX11_least 65 = .ok (.invokevirtual 294, 3) := by decide +kernel
theorem dX11_least_68 : decode cX11_least 68 = .ok (.iinc 4 1, 3) := by decide +kernel
theorem dX11_least_71 : decode cX11_least 71 = .ok (.goto (-32), 3) := by decide +kernel
theorem dX11_least_74 : decode cX11_least 74 = .ok (.iinc 3 1, 3) := by decide +kernel
theorem dX11_least_77 : decode cX11_least 77 = .ok (.goto (-47), 3) := by decide +kernel
theorem dX11_least_80 : decode cX11_least 80 = .ok (.aload_n 0, 1) := by decide +kernel
theorem dX11_least_81 : decode cX11_least 81 = .ok (.getfield 68, 3) := by decide +kernel
theorem dX11_least_84 : decode cX11_least 84 = .ok (.iload_n 1, 1) := by decide +kernel
theorem dX11_least_85 : decode cX11_least 85 = .ok (.invokevirtual 297, 3) := by decide +kernel
theorem dX11_least_88 : decode cX11_least 88 = .ok (.iload_n 2, 1) := by decide +kernel
theorem dX11_least_89 : decode cX11_least 89 = .ok (.iconst (-1), 1) := by decide +kernel
theorem dX11_least_90 : decode cX11_least 90 = .ok (.if_icmp .ne 14, 3) := by decide +kernel
theorem dX11_least_93 : decode cX11_least 93 = .ok (.aload_n 0, 1) := by decide +kernel
theorem dX11_least_94 : decode cX11_least 94 = .ok (.getfield 68, 3) := by decide +kernel
theorem dX11_least_97 : decode cX11_least 97 = .ok (.iload_n 1, 1) := by decide +kernel
theorem dX11_least_98 : decode cX11_least 98 = .ok (.invokevirtual 300, 3) := by decide +kernel
theorem dX11_least_101 : decode cX11_least 101 = .ok (.goto 12, 3) := by decide +kernel
theorem dX11_least_104 : decode cX11_least 104 = .ok (.aload_n 0, 1) := by decide +kernel
theorem dX11_least_105 : decode cX11_least 105 = .ok (.getfield 68, 3) := by decide +kernel
theorem dX11_least_108 : decode cX11_least 108 = .ok (.iload_n 2, 1) := by decide +kernel
theorem dX11_least_109 : decode cX11_least 109 = .ok (.iload_n 1, 1) := by decide +kernel
theorem dX11_least_110 : decode cX11_least 110 = .ok (.invokevirtual 303, 3) := by decide +kernel
theorem dX11_least_113 : decode cX11_least 113 = .ok (.ireturn, 1) := by decide +kernel
theorem dX11_soaps_0 : decode cX11_soaps 0 = .ok (.iload_n 1, 1) := by decide +kernel
theorem dX11_soaps_1 : decode cX11_soaps 1 = .ok (.invokestatic 129, 3) := by decide +kernel
theorem dX11_soaps_4 : decode cX11_soaps 4 = .ok (.aload_n 0, 1) := by decide +kernel
theorem dX11_soaps_5 : decode cX11_soaps 5 = .ok (.getfield 20, 3) := by decide +kernel
theorem dX11_soaps_8 : decode cX11_soaps 8 = .ok (.getfield 132, 3) := by decide +kernel
theorem dX11_soaps_11 : decode cX11_soaps 11 = .ok (.getfield 144, 3) := by decide +kernel
theorem dX11_soaps_14 : decode cX11_soaps 14 = .ok (.iload_n 1, 1) := by decide +kernel
theorem dX11_soaps_15 : decode cX11_soaps 15 = .ok (.iaload, 1) := by decide +kernel
theorem dX11_soaps_16 : decode cX11_soaps 16 = .ok (.aload_n 0, 1) := by decide +kernel
theorem dX11_soaps_17 : decode cX11_soaps 17 = .ok (.getfield 20, 3) := by decide +kernel
theorem dX11_soaps_20 : decode cX11_soaps 20 = .ok (.invokevirtual 168, 3) := by decide +kernel
theorem dX11_soaps_23 : decode cX11_soaps 23 = .ok (.iand, 1) := by decide +kernel
theorem dX11_soaps_24 : decode cX11_soaps 24 = .ok (.istore_n 2, 1) := by decide +kernel
theorem dX11_soaps_25 : decode cX11_soaps 25 = .ok (.iconst 0, 1) := by decide +kernel
theorem dX11_soaps_26 : decode cX11_soaps 26 = .ok (.istore_n 3, 1) := by decide +kernel
theorem dX11_soaps_27 : decode cX11_soaps 27 = .ok (.bipush 7, 2) := by decide +kernel
theorem dX11_soaps_29 : decode cX11_soaps 29 = .ok (.istore 4, 2) := by decide +kernel
theorem dX11_soaps_31 : decode cX11_soaps 31 = .ok (.iconst 0, 1) := by decide +kernel
theorem dX11_soaps_32 : decode cX11_soaps 32 = .ok (.istore 5, 2) := by decide +kernel
theorem dX11_soaps_34 : decode cX11_soaps 34 = .ok (.iload 5, 2) := by decide +kernel
theorem dX11_soaps_36 : decode cX11_soaps 36 = .ok (.iconst 1, 1) := by decide +kernel
theorem dX11_soaps_37 : decode cX11_soaps 37 = .ok (.aload_n 0, 1) := by decide +kernel
theorem dX11_soaps_38 : decode cX11_soaps 38 = .ok (.getfield 20, 3) := by decide +kernel
theorem dX11_soaps_41 : decode cX11_soaps 41 = .ok (.getfield 212, 3) := by decide +kernel
theorem dX11_soaps_44 : decode cX11_soaps 44 = .ok (.ishl, 1) := by decide +kernel
theorem dX11_soaps_45 : decode cX11_soaps 45 = .ok (.if_icmp .ge 57, 3) := by decide +kernel
theorem dX11_soaps_48 : decode cX11_soaps 48 = .ok (.iload_n 2, 1) := by decide +kernel
theorem dX11_soaps_49 : decode cX11_soaps 49 = .ok (.aload_n 0, 1) := by decide +kernel
theorem dX11_soaps_50 : decode cX11_soaps 50 = .ok (.getfield 20, 3) := by decide +kernel
theorem dX11_soaps_53 : decode cX11_soaps 53 = .ok (.iload 5, 2) := by decide +kernel
theorem dX11_soaps_55 : decode cX11_soaps 55 = .ok (.invokevirtual 306, 3) := by decide +kernel
theorem dX11_soaps_58 : decode cX11_soaps 58 = .ok (.iconst (-1), 1) := by decide +kernel
theorem dX11_soaps_59 : decode cX11_soaps 59 = .ok (.ixor, 1) := by decide +kernel
theorem dX11_soaps_60 : decode cX11_soaps 60 = .ok (.iand, 1) := by decide +kernel
theorem dX11_soaps_61 : decode cX11_soaps 61 = .ok (.ifCond .ne 7, 3) := by decide +kernel
theorem dX11_soaps_64 : decode cX11_soaps 64 = .ok (.iconst 1, 1) := by decide +kernel
theorem dX11_soaps_65 : decode cX11_soaps 65 = .ok (.goto 4, 3) := by decide +kernel
theorem dX11_soaps_68 : decode cX11_soaps 68 = .ok (.iconst 0, 1) := by decide +kernel
theorem dX11_soaps_69 : decode cX11_soaps 69 = .ok (.istore 6, 2) := by decide +kernel
theorem dX11_soaps_71 : decode cX11_soaps 71 = .ok (.iload 6, 2) := by decide +kernel
theorem dX11_soaps_73 : decode cX11_soaps 73 = .ok (.ifCond .eq 23, 3) := by decide +kernel
theorem dX11_soaps_76 : decode cX11_soaps 76 = .ok (.iload 5, 2) := by decide +kernel
theorem dX11_soaps_78 : decode cX11_soaps 78 = .ok (.invokestatic 309, 3) := by decide +kernel
theorem dX11_soaps_81 : decode cX11_soaps 81 = .ok (.iload 4, 2) := by decide +kernel
theorem dX11_soaps_83 : decode cX11_soaps 83 = .ok (.if_icmp .ge 13, 3) := by decide +kernel
theorem dX11_soaps_86 : decode cX11_soaps 86 = .ok (.iload 5, 2) := by decide +kernel
theorem dX11_soaps_88 : decode cX11_soaps 88 = .ok (.invokestatic 309, 3) := by decide +kernel
theorem dX11_soaps_91 : decode cX11_soaps 91 = .ok (.istore 4, 2) := by decide +kernel
theorem dX11_soaps_93 : decode cX11_soaps 93 = .ok (.iload 5, 2) := by decide +kernel
theorem dX11_soaps_95 : decode cX11_soaps 95 = .ok (.istore_n 3, 1) := by decide +kernel
theorem dX11_soaps_96 : decode cX11_soaps 96 = .ok (.iinc 5 1, 3) := by decide +kernel
theorem dX11_soaps_99 : decode cX11_soaps 99 = .ok (.goto (-65), 3) := by decide +kernel
theorem dX11_soaps_102 : decode cX11_soaps 102 = .ok (.iload_n 3, 1) := by decide +kernel
theorem dX11_soaps_103 : decode cX11_soaps 103 = .ok (.ireturn, 1) := by decide +kernel
theorem dX11_washes_0 : decode cX11_washes 0 = .ok (.iload_n 1, 1) := by decide +kernel
theorem dX11_washes_1 : decode cX11_washes 1 = .ok (.invokestatic 129, 3) := by decide +kernel
theorem dX11_washes_4 : decode cX11_washes 4 = .ok (.aload_n 0, 1) := by decide +kernel
theorem dX11_washes_5 : decode cX11_washes 5 = .ok (.iload_n 2, 1) := by decide +kernel
theorem dX11_washes_6 : decode cX11_washes 6 = .ok (.invokevirtual 179, 3) := by decide +kernel
theorem dX11_washes_9 : decode cX11_washes 9 = .ok (.aload_n 0, 1) := by decide +kernel
theorem dX11_washes_10 : decode cX11_washes 10 = .ok (.getfield 20, 3) := by decide +kernel
theorem dX11_washes_13 : decode cX11_washes 13 = .ok (.getfield 132, 3) := by decide +kernel
theorem dX11_washes_16 : decode cX11_washes 16 = .ok (.getfield 135, 3) := by decide +kernel
theorem dX11_washes_19 : decode cX11_washes 19 = .ok (.iload_n 1, 1) := by decide +kernel
theorem dX11_washes_20 : decode cX11_washes 20 = .ok (.iaload, 1) := by decide +kernel
theorem dX11_washes_21 : decode cX11_washes 21 = .ok (.istore_n 3, 1) := by decide +kernel
theorem dX11_washes_22 : decode cX11_washes 22 = .ok (.aload_n 0, 1) := by decide +kernel
theorem dX11_washes_23 : decode cX11_washes 23 = .ok (.getfield 20, 3) := by decide +kernel
theorem dX11_washes_26 : decode cX11_washes 26 = .ok (.iload_n 2, 1) := by decide +kernel
theorem dX11_washes_27 : decode cX11_washes 27 = .ok (.invokevirtual 182, 3) := by decide +kernel
theorem dX11_washes_30 : decode cX11_washes 30 = .ok (.istore 4, 2) := by decide +kernel
theorem dX11_washes_32 : decode cX11_washes 32 = .ok (.iload_n 3, 1) := by decide +kernel
theorem dX11_washes_33 : decode cX11_washes 33 = .ok (.ifCond .ne 5, 3) := by decide +kernel
theorem dX11_washes_36 : decode cX11_washes 36 = .ok (.iconst 0, 1) := by decide +kernel
theorem dX11_washes_37 : decode cX11_washes 37 = .ok (.ireturn, 1) := by decide +kernel
theorem dX11_washes_38 : decode cX11_washes 38 = .ok (.iload 4, 2) := by decide +kernel
theorem dX11_washes_40 : decode cX11_washes 40 = .ok (.ifCond .gt 7, 3) := by decide +kernel
theorem dX11_washes_43 : decode cX11_washes 43 = .ok (.iconst (-1), 1) := by decide +kernel
theorem dX11_washes_44 : decode cX11_washes 44 = .ok (.goto 12, 3) := by decide +kernel
theorem dX11_washes_47 : decode cX11_washes 47 = .ok (.iload_n 3, 1) := by decide +kernel
theorem dX11_washes_48 : decode cX11_washes 48 = .ok (.iload 4, 2) := by decide +kernel
theorem dX11_washes_50 : decode cX11_washes 50 = .ok (.iadd, 1) := by decide +kernel
theorem dX11_washes_51 : decode cX11_washes 51 = .ok (.iconst 1, 1) := by decide +kernel
theorem dX11_washes_52 : decode cX11_washes 52 = .ok (.isub, 1) := by decide +kernel
theorem dX11_washes_53 : decode cX11_washes 53 = .ok (.iload 4, 2) := by decide +kernel
theorem dX11_washes_55 : decode cX11_washes 55 = .ok (.idiv, 1) := by decide +kernel
theorem dX11_washes_56 : decode cX11_washes 56 = .ok (.ireturn, 1) := by decide +kernel
theorem dX11_wears_0 : decode cX11_wears 0 = .ok (.iload_n 1, 1) := by decide +kernel
theorem dX11_wears_1 : decode cX11_wears 1 = .ok (.invokestatic 129, 3) := by decide +kernel
theorem dX11_wears_4 : decode cX11_wears 4 = .ok (.aload_n 0, 1) := by decide +kernel
theorem dX11_wears_5 : decode cX11_wears 5 = .ok (.iload_n 2, 1) := by decide +kernel
theorem dX11_wears_6 : decode cX11_wears 6 = .ok (.invokevirtual 179, 3) := by decide +kernel
theorem dX11_wears_9 : decode cX11_wears 9 = .ok (.iconst 1, 1) := by decide +kernel
theorem dX11_wears_10 : decode cX11_wears 10 = .ok (.aload_n 0, 1) := by decide +kernel
theorem dX11_wears_11 : decode cX11_wears 11 = .ok (.getfield 20, 3) := by decide +kernel
theorem dX11_wears_14 : decode cX11_wears 14 = .ok (.iload_n 2, 1) := by decide +kernel
theorem dX11_wears_15 : decode cX11_wears 15 = .ok (.invokevirtual 188, 3) := by decide +kernel
theorem dX11_wears_18 : decode cX11_wears 18 = .ok (.iadd, 1) := by decide +kernel
theorem dX11_wears_19 : decode cX11_wears 19 = .ok (.istore_n 3, 1) := by decide +kernel
theorem dX11_wears_20 : decode cX11_wears 20 = .ok (.iload_n 3, 1) := by decide +kernel
theorem dX11_wears_21 : decode cX11_wears 21 = .ok (.ifCond .gt 7, 3) := by decide +kernel
theorem dX11_wears_24 : decode cX11_wears 24 = .ok (.iconst 0, 1) := by decide +kernel
theorem dX11_wears_25 : decode cX11_wears 25 = .ok (.goto 24, 3) := by decide +kernel
theorem dX11_wears_28 : decode cX11_wears 28 = .ok (.bipush 9, 2) := by decide +kernel
theorem dX11_wears_30 : decode cX11_wears 30 = .ok (.aload_n 0, 1) := by decide +kernel
theorem dX11_wears_31 : decode cX11_wears 31 = .ok (.getfield 20, 3) := by decide +kernel
theorem dX11_wears_34 : decode cX11_wears 34 = .ok (.getfield 132, 3) := by decide +kernel
theorem dX11_wears_37 : decode cX11_wears 37 = .ok (.getfield 138, 3) := by decide +kernel
theorem dX11_wears_40 : decode cX11_wears 40 = .ok (.iload_n 1, 1) := by decide +kernel
theorem dX11_wears_41 : decode cX11_wears 41 = .ok (.iaload, 1) := by decide +kernel
theorem dX11_wears_42 : decode cX11_wears 42 = .ok (.isub, 1) := by decide +kernel
theorem dX11_wears_43 : decode cX11_wears 43 = .ok (.iload_n 3, 1) := by decide +kernel
theorem dX11_wears_44 : decode cX11_wears 44 = .ok (.iadd, 1) := by decide +kernel
theorem dX11_wears_45 : decode cX11_wears 45 = .ok (.iconst 1, 1) := by decide +kernel
theorem dX11_wears_46 : decode cX11_wears 46 = .ok (.isub, 1) := by decide +kernel
theorem dX11_wears_47 : decode cX11_wears 47 = .ok (.iload_n 3, 1) := by decide +kernel
theorem dX11_wears_48 : decode cX11_wears 48 = .ok (.idiv, 1) := by decide +kernel
theorem dX11_wears_49 : decode cX11_wears 49 = .ok (.ireturn, 1) := by decide +kernel
theorem dX11_stained_0 : decode cX11_stained 0 = .ok (.aload_n 0, 1) := by decide +kernel
theorem dX11_stained_1 : decode cX11_stained 1 = .ok (.invokevirtual 314, 3) := by decide +kernel
theorem dX11_stained_4 : decode cX11_stained 4 = .ok (.istore_n 2, 1) := by decide +kernel
theorem dX11_stained_5 : decode cX11_stained 5 = .ok (.iload_n 1, 1) := by decide +kernel
theorem dX11_stained_6 : decode cX11_stained 6 = .ok (.ifCond .ne 8, 3) := by decide +kernel
theorem dX11_stained_9 : decode cX11_stained 9 = .ok (.iload_n 2, 1) := by decide +kernel
theorem dX11_stained_10 : decode cX11_stained 10 = .ok (.invokestatic 309, 3) := by decide +kernel
theorem dX11_stained_13 : decode cX11_stained 13 = .ok (.ireturn, 1) := by decide +kernel
theorem dX11_stained_14 : decode cX11_stained 14 = .ok (.iload_n 2, 1) := by decide +kernel
theorem dX11_stained_15 : decode cX11_stained 15 = .ok (.ifCond .ne 5, 3) := by decide +kernel
theorem dX11_stained_18 : decode cX11_stained 18 = .ok (.iconst 0, 1) := by decide +kernel
theorem dX11_stained_19 : decode cX11_stained 19 = .ok (.ireturn, 1) := by decide +kernel
theorem dX11_stained_20 : decode cX11_stained 20 = .ok (.bipush 31, 2) := by decide +kernel
theorem dX11_stained_22 : decode cX11_stained 22 = .ok (.istore_n 3, 1) := by decide +kernel
theorem dX11_stained_23 : decode cX11_stained 23 = .ok (.iconst 0, 1) := by decide +kernel
theorem dX11_stained_24 : decode cX11_stained 24 = .ok (.istore 4, 2) := by decide +kernel
theorem dX11_stained_26 : decode cX11_stained 26 = .ok (.iload 4, 2) := by decide +kernel
theorem dX11_stained_28 : decode cX11_stained 28 = .ok (.bipush 32, 2) := by decide +kernel
theorem dX11_stained_30 : decode cX11_stained 30 = .ok (.if_icmp .ge 24, 3) := by decide +kernel
theorem dX11_stained_33 : decode cX11_stained 33 = .ok (.iload_n 2, 1) := by decide +kernel
theorem dX11_stained_34 : decode cX11_stained 34 = .ok (.iload 4, 2) := by decide +kernel
theorem dX11_stained_36 : decode cX11_stained 36 = .ok (.iushr, 1) := by decide +kernel
theorem dX11_stained_37 : decode cX11_stained 37 = .ok (.iconst 1, 1) := by decide +kernel
theorem dX11_stained_38 : decode cX11_stained 38 = .ok (.iand, 1) := by decide +kernel
theorem dX11_stained_39 : decode cX11_stained 39 = .ok (.iconst 1, 1) := by decide +kernel
theorem dX11_stained_40 : decode cX11_stained 40 = .ok (.if_icmp .ne 8, 3) := by decide +kernel
theorem dX11_stained_43 : decode cX11_stained 43 = .ok (.iload_n 3, 1) := by decide +kernel
theorem dX11_stained_44 : decode cX11_stained 44 = .ok (.iload 4, 2) := by decide +kernel
theorem dX11_stained_46 : decode cX11_stained 46 = .ok (.iand, 1) := by decide +kernel
theorem dX11_stained_47 : decode cX11_stained 47 = .ok (.istore_n 3, 1) := by decide +kernel
theorem dX11_stained_48 : decode cX11_stained 48 = .ok (.iinc 4 1, 3) := by decide +kernel
theorem dX11_stained_51 : decode cX11_stained 51 = .ok (.goto (-25), 3) := by decide +kernel
theorem dX11_stained_54 : decode cX11_stained 54 = .ok (.iload_n 3, 1) := by decide +kernel
theorem dX11_stained_55 : decode cX11_stained 55 = .ok (.ireturn, 1) := by decide +kernel
theorem dX11_tries_0 : decode cX11_tries 0 = .ok (.aload_n 0, 1) := by decide +kernel
theorem dX11_tries_1 : decode cX11_tries 1 = .ok (.invokevirtual 314, 3) := by decide +kernel
theorem dX11_tries_4 : decode cX11_tries 4 = .ok (.istore_n 1, 1) := by decide +kernel
theorem dX11_tries_5 : decode cX11_tries 5 = .ok (.iload_n 1, 1) := by decide +kernel
theorem dX11_tries_6 : decode cX11_tries 6 = .ok (.invokestatic 309, 3) := by decide +kernel
theorem dX11_tries_9 : decode cX11_tries 9 = .ok (.istore_n 2, 1) := by decide +kernel
theorem dX11_tries_10 : decode cX11_tries 10 = .ok (.iload_n 2, 1) := by decide +kernel
theorem dX11_tries_11 : decode cX11_tries 11 = .ok (.iconst 2, 1) := by decide +kernel
theorem dX11_tries_12 : decode cX11_tries 12 = .ok (.if_icmp .ge 5, 3) := by decide +kernel
theorem dX11_tries_15 : decode cX11_tries 15 = .ok (.iconst (-1), 1) := by decide +kernel
theorem dX11_tries_16 : decode cX11_tries 16 = .ok (.ireturn, 1) := by decide +kernel
theorem dX11_tries_17 : decode cX11_tries 17 = .ok (.iconst (-1), 1) := by decide +kernel
theorem dX11_tries_18 : decode cX11_tries 18 = .ok (.istore_n 3, 1) := by decide +kernel
theorem dX11_tries_19 : decode cX11_tries 19 = .ok (.bipush 33, 2) := by decide +kernel
theorem dX11_tries_21 : decode cX11_tries 21 = .ok (.istore 4, 2) := by decide +kernel
theorem dX11_tries_23 : decode cX11_tries 23 = .ok (.iconst 0, 1) := by decide +kernel
theorem dX11_tries_24 : decode cX11_tries 24 = .ok (.istore 5, 2) := by decide +kernel
theorem dX11_tries_26 : decode cX11_tries 26 = .ok (.iload 5, 2) := by decide +kernel
theorem dX11_tries_28 : decode cX11_tries 28 = .ok (.aload_n 0, 1) := by decide +kernel
theorem dX11_tries_29 : decode cX11_tries 29 = .ok (.getfield 20, 3) := by decide +kernel
theorem dX11_tries_32 : decode cX11_tries 32 = .ok (.getfield 212, 3) := by decide +kernel
theorem dX11_tries_35 : decode cX11_tries 35 = .ok (.if_icmp .ge 53, 3) := by decide +kernel
theorem dX11_tries_38 : decode cX11_tries 38 = .ok (.iload_n 1, 1) := by decide +kernel
theorem dX11_tries_39 : decode cX11_tries 39 = .ok (.aload_n 0, 1) := by decide +kernel
theorem dX11_tries_40 : decode cX11_tries 40 = .ok (.getfield 20, 3) := by decide +kernel
theorem dX11_tries_43 : decode cX11_tries 43 = .ok (.iload 5, 2) := by decide +kernel
theorem dX11_tries_45 : decode cX11_tries 45 = .ok (.invokevirtual 191, 3) := by decide +kernel
theorem dX11_tries_48 : decode cX11_tries 48 = .ok (.invokestatic 317, 3) := by decide +kernel
theorem dX11_tries_51 : decode cX11_tries 51 = .ok (.iand, 1) := by decide +kernel
theorem dX11_tries_52 : decode cX11_tries 52 = .ok (.invokestatic 309, 3) := by decide +kernel
theorem dX11_tries_55 : decode cX11_tries 55 = .ok (.istore 6, 2) := by decide +kernel
theorem dX11_tries_57 : decode cX11_tries 57 = .ok (.iload 6, 2) := by decide +kernel
theorem dX11_tries_59 : decode cX11_tries 59 = .ok (.iload_n 2, 1) := by decide +kernel
theorem dX11_tries_60 : decode cX11_tries 60 = .ok (.iload 6, 2) := by decide +kernel
theorem dX11_tries_62 : decode cX11_tries 62 = .ok (.isub, 1) := by decide +kernel
theorem dX11_tries_63 : decode cX11_tries 63 = .ok (.invokestatic 236, 3) := by decide +kernel
theorem dX11_tries_66 : decode cX11_tries 66 = .ok (.istore 7, 2) := by decide +kernel
theorem dX11_tries_68 : decode cX11_tries 68 = .ok (.iload 7, 2) := by decide +kernel
theorem dX11_tries_70 : decode cX11_tries 70 = .ok (.iload 4, 2) := by decide +kernel
theorem dX11_tries_72 : decode cX11_tries 72 = .ok (.if_icmp .ge 10, 3) := by decide +kernel
theorem dX11_tries_75 : decode cX11_tries 75 = .ok (.iload 7, 2) := by decide +kernel
theorem dX11_tries_77 : decode cX11_tries 77 = .ok (.istore 4, 2) := by decide +kernel
theorem dX11_tries_79 : decode cX11_tries 79 = .ok (.iload 5, 2) := by decide +kernel
theorem dX11_tries_81 : decode cX11_tries 81 = .ok (.istore_n 3, 1) := by decide +kernel
theorem dX11_tries_82 : decode cX11_tries 82 = .ok (.iinc 5 1, 3) := by decide +kernel
theorem dX11_tries_85 : decode cX11_tries 85 = .ok (.goto (-59), 3) := by decide +kernel
theorem dX11_tries_88 : decode cX11_tries 88 = .ok (.iload_n 3, 1) := by decide +kernel
theorem dX11_tries_89 : decode cX11_tries 89 = .ok (.ireturn, 1) := by decide +kernel
theorem dX11_setsThatFit_0 : decode cX11_setsThatFit 0 = .ok (.aload_n 0, 1) := by decide +kernel
theorem dX11_setsThatFit_1 : decode cX11_setsThatFit 1 = .ok (.getfield 79, 3) := by decide +kernel
theorem dX11_setsThatFit_4 : decode cX11_setsThatFit 4 = .ok (.istore_n 1, 1) := by decide +kernel
theorem dX11_setsThatFit_5 : decode cX11_setsThatFit 5 = .ok (.aload_n 0, 1) := by decide +kernel
theorem dX11_setsThatFit_6 : decode cX11_setsThatFit 6 = .ok (.iconst 0, 1) := by decide +kernel
theorem dX11_setsThatFit_7 : decode cX11_setsThatFit 7 = .ok (.putfield 79, 3) := by decide +kernel
theorem dX11_setsThatFit_10 : decode cX11_setsThatFit 10 = .ok (.iload_n 1, 1) := by decide +kernel
theorem dX11_setsThatFit_11 : decode cX11_setsThatFit 11 = .ok (.bipush 40, 2) := by decide +kernel
theorem dX11_setsThatFit_13 : decode cX11_setsThatFit 13 = .ok (.if_icmp .gt 9, 3) := by decide +kernel
theorem dX11_setsThatFit_16 : decode cX11_setsThatFit 16 = .ok (.iload_n 1, 1) := by decide +kernel
theorem dX11_setsThatFit_17 : decode cX11_setsThatFit 17 = .ok (.iconst 2, 1) := by decide +kernel
theorem dX11_setsThatFit_18 : decode cX11_setsThatFit 18 = .ok (.irem, 1) := by decide +kernel
theorem dX11_setsThatFit_19 : decode cX11_setsThatFit 19 = .ok (.ifCond .eq 11, 3) := by decide +kernel
theorem dX11_setsThatFit_22 : decode cX11_setsThatFit 22 = .ok (.new 126, 3) := by decide +kernel
theorem dX11_setsThatFit_25 : decode cX11_setsThatFit 25 = .ok (.dup, 1) := by decide +kernel
theorem dX11_setsThatFit_26 : decode cX11_setsThatFit 26 = .ok (.invokespecial 128, 3) := by decide +kernel
theorem dX11_setsThatFit_29 : decode cX11_setsThatFit 29 = .ok (.athrow, 1) := by decide +kernel
theorem dX11_setsThatFit_30 : decode cX11_setsThatFit 30 = .ok (.iconst (-1), 1) := by decide +kernel
theorem dX11_setsThatFit_31 : decode cX11_setsThatFit 31 = .ok (.istore_n 2, 1) := by decide +kernel
theorem dX11_setsThatFit_32 : decode cX11_setsThatFit 32 = .ok (.iconst 0, 1) := by decide +kernel
theorem dX11_setsThatFit_33 : decode cX11_setsThatFit 33 = .ok (.istore_n 3, 1) := by decide +kernel
theorem dX11_setsThatFit_34 : decode cX11_setsThatFit 34 = .ok (.iload_n 3, 1) := by decide +kernel
theorem dX11_setsThatFit_35 : decode cX11_setsThatFit 35 = .ok (.iconst 1, 1) := by decide +kernel
theorem dX11_setsThatFit_36 : decode cX11_setsThatFit 36 = .ok (.iadd, 1) := by decide +kernel
theorem dX11_setsThatFit_37 : decode cX11_setsThatFit 37 = .ok (.iload_n 1, 1) := by decide +kernel
theorem dX11_setsThatFit_38 : decode cX11_setsThatFit 38 = .ok (.if_icmp .ge 85, 3) := by decide +kernel
theorem dX11_setsThatFit_41 : decode cX11_setsThatFit 41 = .ok (.aload_n 0, 1) := by decide +kernel
theorem dX11_setsThatFit_42 : decode cX11_setsThatFit 42 = .ok (.getfield 9, 3) := by decide +kernel
theorem dX11_setsThatFit_45 : decode cX11_setsThatFit 45 = .ok (.iload_n 3, 1) := by decide +kernel
theorem dX11_setsThatFit_46 : decode cX11_setsThatFit 46 = .ok (.iaload, 1) := by decide +kernel
theorem dX11_setsThatFit_47 : decode cX11_setsThatFit 47 = .ok (.istore 4, 2) := by decide +kernel
theorem dX11_setsThatFit_49 : decode cX11_setsThatFit 49 = .ok (.aload_n 0, 1) := by decide +kernel
theorem dX11_setsThatFit_50 : decode cX11_setsThatFit 50 = .ok (.getfield 9, 3) := by decide +kernel
theorem dX11_setsThatFit_53 : decode cX11_setsThatFit 53 = .ok (.iload_n 3, 1) := by decide +kernel
theorem dX11_setsThatFit_54 : decode cX11_setsThatFit 54 = .ok (.iconst 1, 1) := by decide +kernel
theorem dX11_setsThatFit_55 : decode cX11_setsThatFit 55 = .ok (.iadd, 1) := by decide +kernel
theorem dX11_setsThatFit_56 : decode cX11_setsThatFit 56 = .ok (.iaload, 1) := by decide +kernel
theorem dX11_setsThatFit_57 : decode cX11_setsThatFit 57 = .ok (.istore 5, 2) := by decide +kernel
theorem dX11_setsThatFit_59 : decode cX11_setsThatFit 59 = .ok (.iload 4, 2) := by decide +kernel
theorem dX11_setsThatFit_61 : decode cX11_setsThatFit 61 = .ok (.aload_n 0, 1) := by decide +kernel
theorem dX11_setsThatFit_62 : decode cX11_setsThatFit 62 = .ok (.getfield 20, 3) := by decide +kernel
theorem dX11_setsThatFit_65 : decode cX11_setsThatFit 65 = .ok (.getfield 212, 3) := by decide +kernel
theorem dX11_setsThatFit_68 : decode cX11_setsThatFit 68 = .ok (.if_icmp .ge 9, 3) := by decide +kernel
theorem dX11_setsThatFit_71 : decode cX11_setsThatFit 71 = .ok (.iload 5, 2) := by decide +kernel
theorem dX11_setsThatFit_73 : decode cX11_setsThatFit 73 = .ok (.iconst 1, 1) := by decide +kernel
theorem dX11_setsThatFit_74 : decode cX11_setsThatFit 74 = .ok (.if_icmp .le 11, 3) := by decide +kernel
theorem dX11_setsThatFit_77 : decode cX11_setsThatFit 77 = .ok (.new 126, 3) := by decide +kernel
theorem dX11_setsThatFit_80 : decode cX11_setsThatFit 80 = .ok (.dup, 1) := by decide +kernel
theorem dX11_setsThatFit_81 : decode cX11_setsThatFit 81 = .ok (.invokespecial 128, 3) := by decide +kernel
theorem dX11_setsThatFit_84 : decode cX11_setsThatFit 84 = .ok (.athrow, 1) := by decide +kernel
theorem dX11_setsThatFit_85 : decode cX11_setsThatFit 85 = .ok (.aload_n 0, 1) := by decide +kernel
theorem dX11_setsThatFit_86 : decode cX11_setsThatFit 86 = .ok (.getfield 20, 3) := by decide +kernel
theorem dX11_setsThatFit_89 : decode cX11_setsThatFit 89 = .ok (.iload 4, 2) := by decide +kernel
theorem dX11_setsThatFit_91 : decode cX11_setsThatFit 91 = .ok (.invokevirtual 191, 3) := by decide +kernel
theorem dX11_setsThatFit_94 : decode cX11_setsThatFit 94 = .ok (.invokestatic 317, 3) := by decide +kernel
theorem dX11_setsThatFit_97 : decode cX11_setsThatFit 97 = .ok (.istore 6, 2) := by decide +kernel
theorem dX11_setsThatFit_99 : decode cX11_setsThatFit 99 = .ok (.iload_n 2, 1) := by decide +kernel
theorem dX11_setsThatFit_100 : decode cX11_setsThatFit 100 = .ok (.iload 5, 2) := by decide +kernel
theorem dX11_setsThatFit_102 : decode cX11_setsThatFit 102 = .ok (.iconst 1, 1) := by decide +kernel
theorem dX11_setsThatFit_103 : decode cX11_setsThatFit 103 = .ok (.if_icmp .ne 8, 3) := by decide +kernel
theorem dX11_setsThatFit_106 : decode cX11_setsThatFit 106 = .ok (.iload 6, 2) := by decide +kernel
theorem dX11_setsThatFit_108 : decode cX11_setsThatFit 108 = .ok (.goto 7, 3) := by decide +kernel
theorem dX11_setsThatFit_111 : decode cX11_setsThatFit 111 = .ok (.iload 6, 2) := by decide +kernel
theorem dX11_setsThatFit_113 : decode cX11_setsThatFit 113 = .ok (.iconst (-1), 1) := by decide +kernel
theorem dX11_setsThatFit_114 : decode cX11_setsThatFit 114 = .ok (.ixor, 1) := by decide +kernel
theorem dX11_setsThatFit_115 : decode cX11_setsThatFit 115 = .ok (.iand, 1) := by decide +kernel
theorem dX11_setsThatFit_116 : decode cX11_setsThatFit 116 = .ok (.istore_n 2, 1) := by decide +kernel
theorem dX11_setsThatFit_117 : decode cX11_setsThatFit 117 = .ok (.iinc 3 2, 3) := by decide +kernel
theorem dX11_setsThatFit_120 : decode cX11_setsThatFit 120 = .ok (.goto (-86), 3) := by decide +kernel
theorem dX11_setsThatFit_123 : decode cX11_setsThatFit 123 = .ok (.iload_n 2, 1) := by decide +kernel
theorem dX11_setsThatFit_124 : decode cX11_setsThatFit 124 = .ok (.ireturn, 1) := by decide +kernel
theorem dX11_setsLeftBy_0 : decode cX11_setsLeftBy 0 = .ok (.iconst 0, 1) := by decide +kernel
theorem dX11_setsLeftBy_1 : decode cX11_setsLeftBy 1 = .ok (.istore_n 1, 1) := by decide +kernel
theorem dX11_setsLeftBy_2 : decode cX11_setsLeftBy 2 = .ok (.iconst 0, 1) := by decide +kernel
theorem dX11_setsLeftBy_3 : decode cX11_setsLeftBy 3 = .ok (.istore_n 2, 1) := by decide +kernel
theorem dX11_setsLeftBy_4 : decode cX11_setsLeftBy 4 = .ok (.iload_n 2, 1) := by decide +kernel
theorem dX11_setsLeftBy_5 : decode cX11_setsLeftBy 5 = .ok (.bipush 32, 2) := by decide +kernel
theorem dX11_setsLeftBy_7 : decode cX11_setsLeftBy 7 = .ok (.if_icmp .ge 23, 3) := by decide +kernel
theorem dX11_setsLeftBy_10 : decode cX11_setsLeftBy 10 = .ok (.iload_n 2, 1) := by decide +kernel
theorem dX11_setsLeftBy_11 : decode cX11_setsLeftBy 11 = .ok (.iload_n 0, 1) := by decide +kernel
theorem dX11_setsLeftBy_12 : decode cX11_setsLeftBy 12 = .ok (.iconst (-1), 1) := by decide +kernel
theorem dX11_setsLeftBy_13 : decode cX11_setsLeftBy 13 = .ok (.ixor, 1) := by decide +kernel
theorem dX11_setsLeftBy_14 : decode cX11_setsLeftBy 14 = .ok (.iand, 1) := by decide +kernel
theorem dX11_setsLeftBy_15 : decode cX11_setsLeftBy 15 = .ok (.ifCond .eq 9, 3) := by decide +kernel
theorem dX11_setsLeftBy_18 : decode cX11_setsLeftBy 18 = .ok (.iload_n 1, 1) := by decide +kernel
theorem dX11_setsLeftBy_19 : decode cX11_setsLeftBy 19 = .ok (.iconst 1, 1) := by decide +kernel
theorem dX11_setsLeftBy_20 : decode cX11_setsLeftBy 20 = .ok (.iload_n 2, 1) := by decide +kernel
theorem dX11_setsLeftBy_21 : decode cX11_setsLeftBy 21 = .ok (.ishl, 1) := by decide +kernel
theorem dX11_setsLeftBy_22 : decode cX11_setsLeftBy 22 = .ok (.ior, 1) := by decide +kernel
theorem dX11_setsLeftBy_23 : decode cX11_setsLeftBy 23 = .ok (.istore_n 1, 1) := by decide +kernel
theorem dX11_setsLeftBy_24 : decode cX11_setsLeftBy 24 = .ok (.iinc 2 1, 3) := by decide +kernel
theorem dX11_setsLeftBy_27 : decode cX11_setsLeftBy 27 = .ok (.goto (-23), 3) := by decide +kernel
theorem dX11_setsLeftBy_30 : decode cX11_setsLeftBy 30 = .ok (.iload_n 1, 1) := by decide +kernel
theorem dX11_setsLeftBy_31 : decode cX11_setsLeftBy 31 = .ok (.ireturn, 1) := by decide +kernel
theorem dX11_soonest_0 : decode cX11_soonest 0 = .ok (.iload_n 2, 1) := by decide +kernel
theorem dX11_soonest_1 : decode cX11_soonest 1 = .ok (.iconst (-1), 1) := by decide +kernel
theorem dX11_soonest_2 : decode cX11_soonest 2 = .ok (.if_icmp .eq 7, 3) := by decide +kernel
theorem dX11_soonest_5 : decode cX11_soonest 5 = .ok (.iload_n 2, 1) := by decide +kernel
theorem dX11_soonest_6 : decode cX11_soonest 6 = .ok (.invokestatic 129, 3) := by decide +kernel
theorem dX11_soonest_9 : decode cX11_soonest 9 = .ok (.iload_n 1, 1) := by decide +kernel
theorem dX11_soonest_10 : decode cX11_soonest 10 = .ok (.iconst 0, 1) := by decide +kernel
theorem dX11_soonest_11 : decode cX11_soonest 11 = .ok (.bipush 9, 2) := by decide +kernel
theorem dX11_soonest_13 : decode cX11_soonest 13 = .ok (.invokestatic 245, 3) := by decide +kernel
theorem dX11_soonest_16 : decode cX11_soonest 16 = .ok (.iconst 0, 1) := by decide +kernel
theorem dX11_soonest_17 : decode cX11_soonest 17 = .ok (.istore_n 3, 1) := by decide +kernel
theorem dX11_soonest_18 : decode cX11_soonest 18 = .ok (.iload_n 3, 1) := by decide +kernel
theorem dX11_soonest_19 : decode cX11_soonest 19 = .ok (.bipush 8, 2) := by decide +kernel
theorem dX11_soonest_21 : decode cX11_soonest 21 = .ok (.if_icmp .ge 43, 3) := by decide +kernel
theorem dX11_soonest_24 : decode cX11_soonest 24 = .ok (.iconst 0, 1) := by decide +kernel
theorem dX11_soonest_25 : decode cX11_soonest 25 = .ok (.istore 4, 2) := by decide +kernel
theorem dX11_soonest_27 : decode cX11_soonest 27 = .ok (.iload 4, 2) := by decide +kernel
theorem dX11_soonest_29 : decode cX11_soonest 29 = .ok (.bipush 8, 2) := by decide +kernel
theorem dX11_soonest_31 : decode cX11_soonest 31 = .ok (.if_icmp .ge 27, 3) := by decide +kernel
theorem dX11_soonest_34 : decode cX11_soonest 34 = .ok (.aload_n 0, 1) := by decide +kernel
theorem dX11_soonest_35 : decode cX11_soonest 35 = .ok (.getfield 75, 3) := by decide +kernel
theorem dX11_soonest_38 : decode cX11_soonest 38 = .ok (.iload_n 3, 1) := by decide +kernel
theorem dX11_soonest_39 : decode cX11_soonest 39 = .ok (.iload 4, 2) := by decide +kernel
theorem dX11_soonest_41 : decode cX11_soonest 41 = .ok (.aload_n 0, 1) := by decide +kernel
theorem dX11_soonest_42 : decode cX11_soonest 42 = .ok (.iload_n 3, 1) := by decide +kernel
theorem dX11_soonest_43 : decode cX11_soonest 43 = .ok (.iload 4, 2) := by decide +kernel
theorem dX11_soonest_45 : decode cX11_soonest 45 = .ok (.iload_n 1, 1) := by decide +kernel
theorem dX11_soonest_46 : decode cX11_soonest 46 = .ok (.invokevirtual 320, 3) := by decide +kernel
theorem dX11_soonest_49 : decode cX11_soonest 49 = .ok (.invokevirtual 324, 3) := by decide +kernel
theorem dX11_soonest_52 : decode cX11_soonest 52 = .ok (.iinc 4 1, 3) := by decide +kernel
theorem dX11_soonest_55 : decode cX11_soonest 55 = .ok (.goto (-28), 3) := by decide +kernel
theorem dX11_soonest_58 : decode cX11_soonest 58 = .ok (.iinc 3 1, 3) := by decide +kernel
theorem dX11_soonest_61 : decode cX11_soonest 61 = .ok (.goto (-43), 3) := by decide +kernel
theorem dX11_soonest_64 : decode cX11_soonest 64 = .ok (.aload_n 0, 1) := by decide +kernel
theorem dX11_soonest_65 : decode cX11_soonest 65 = .ok (.getfield 75, 3) := by decide +kernel
theorem dX11_soonest_68 : decode cX11_soonest 68 = .ok (.invokevirtual 325, 3) := by decide +kernel
theorem dX11_soonest_71 : decode cX11_soonest 71 = .ok (.iload_n 2, 1) := by decide +kernel
theorem dX11_soonest_72 : decode cX11_soonest 72 = .ok (.iconst (-1), 1) := by decide +kernel
theorem dX11_soonest_73 : decode cX11_soonest 73 = .ok (.if_icmp .ne 13, 3) := by decide +kernel
theorem dX11_soonest_76 : decode cX11_soonest 76 = .ok (.aload_n 0, 1) := by decide +kernel
theorem dX11_soonest_77 : decode cX11_soonest 77 = .ok (.getfield 75, 3) := by decide +kernel
theorem dX11_soonest_80 : decode cX11_soonest 80 = .ok (.invokevirtual 327, 3) := by decide +kernel
theorem dX11_soonest_83 : decode cX11_soonest 83 = .ok (.goto 11, 3) := by decide +kernel
theorem dX11_soonest_86 : decode cX11_soonest 86 = .ok (.aload_n 0, 1) := by decide +kernel
theorem dX11_soonest_87 : decode cX11_soonest 87 = .ok (.getfield 75, 3) := by decide +kernel
theorem dX11_soonest_90 : decode cX11_soonest 90 = .ok (.iload_n 2, 1) := by decide +kernel
theorem dX11_soonest_91 : decode cX11_soonest 91 = .ok (.invokevirtual 330, 3) := by decide +kernel
theorem dX11_soonest_94 : decode cX11_soonest 94 = .ok (.ireturn, 1) := by decide +kernel
theorem dX11_nightsOnPeg_0 : decode cX11_nightsOnPeg 0 = .ok (.aload_n 0, 1) := by decide +kernel
theorem dX11_nightsOnPeg_1 : decode cX11_nightsOnPeg 1 = .ok (.getfield 20, 3) := by decide +kernel
theorem dX11_nightsOnPeg_4 : decode cX11_nightsOnPeg 4 = .ok (.getfield 132, 3) := by decide +kernel
theorem dX11_nightsOnPeg_7 : decode cX11_nightsOnPeg 7 = .ok (.iload_n 1, 1) := by decide +kernel
theorem dX11_nightsOnPeg_8 : decode cX11_nightsOnPeg 8 = .ok (.invokevirtual 147, 3) := by decide +kernel
theorem dX11_nightsOnPeg_11 : decode cX11_nightsOnPeg 11 = .ok (.ifCond .ne 5, 3) := by decide +kernel
theorem dX11_nightsOnPeg_14 : decode cX11_nightsOnPeg 14 = .ok (.iconst 0, 1) := by decide +kernel
theorem dX11_nightsOnPeg_15 : decode cX11_nightsOnPeg 15 = .ok (.ireturn, 1) := by decide +kernel
theorem dX11_nightsOnPeg_16 : decode cX11_nightsOnPeg 16 = .ok (.iconst 0, 1) := by decide +kernel
theorem dX11_nightsOnPeg_17 : decode cX11_nightsOnPeg 17 = .ok (.istore 4, 2) := by decide +kernel
theorem dX11_nightsOnPeg_19 : decode cX11_nightsOnPeg 19 = .ok (.iload 4, 2) := by decide +kernel
theorem dX11_nightsOnPeg_21 : decode cX11_nightsOnPeg 21 = .ok (.iload_n 2, 1) := by decide +kernel
theorem dX11_nightsOnPeg_22 : decode cX11_nightsOnPeg 22 = .ok (.if_icmp .ge 50, 3) := by decide +kernel
theorem dX11_nightsOnPeg_25 : decode cX11_nightsOnPeg 25 = .ok (.aload_n 0, 1) := by decide +kernel
theorem dX11_nightsOnPeg_26 : decode cX11_nightsOnPeg 26 = .ok (.getfield 20, 3) := by decide +kernel
theorem dX11_nightsOnPeg_29 : decode cX11_nightsOnPeg 29 = .ok (.getfield 132, 3) := by decide +kernel
theorem dX11_nightsOnPeg_32 : decode cX11_nightsOnPeg 32 = .ok (.getfield 197, 3) := by decide +kernel
theorem dX11_nightsOnPeg_35 : decode cX11_nightsOnPeg 35 = .ok (.iload 4, 2) := by decide +kernel
theorem dX11_nightsOnPeg_37 : decode cX11_nightsOnPeg 37 = .ok (.iaload, 1) := by decide +kernel
theorem dX11_nightsOnPeg_38 : decode cX11_nightsOnPeg 38 = .ok (.aload_n 0, 1) := by decide +kernel
theorem dX11_nightsOnPeg_39 : decode cX11_nightsOnPeg 39 = .ok (.getfield 20, 3) := by decide +kernel
theorem dX11_nightsOnPeg_42 : decode cX11_nightsOnPeg 42 = .ok (.getfield 132, 3) := by decide +kernel
theorem dX11_nightsOnPeg_45 : decode cX11_nightsOnPeg 45 = .ok (.getfield 197, 3) := by decide +kernel
theorem dX11_nightsOnPeg_48 : decode cX11_nightsOnPeg 48 = .ok (.iload_n 2, 1) := by decide +kernel
theorem dX11_nightsOnPeg_49 : decode cX11_nightsOnPeg 49 = .ok (.iaload, 1) := by decide +kernel
theorem dX11_nightsOnPeg_50 : decode cX11_nightsOnPeg 50 = .ok (.if_icmp .ne 16, 3) := by decide +kernel
theorem dX11_nightsOnPeg_53 : decode cX11_nightsOnPeg 53 = .ok (.aload_n 0, 1) := by decide +kernel
theorem dX11_nightsOnPeg_54 : decode cX11_nightsOnPeg 54 = .ok (.getfield 75, 3) := by decide +kernel
theorem dX11_nightsOnPeg_57 : decode cX11_nightsOnPeg 57 = .ok (.getfield 333, 3) := by decide +kernel
theorem dX11_nightsOnPeg_60 : decode cX11_nightsOnPeg 60 = .ok (.iload_n 1, 1) := by decide +kernel
theorem dX11_nightsOnPeg_61 : decode cX11_nightsOnPeg 61 = .ok (.aaload, 1) := by decide +kernel
theorem dX11_nightsOnPeg_62 : decode cX11_nightsOnPeg 62 = .ok (.iload 4, 2) := by decide +kernel
theorem dX11_nightsOnPeg_64 : decode cX11_nightsOnPeg 64 = .ok (.iaload, 1) := by decide +kernel
theorem dX11_nightsOnPeg_65 : decode cX11_nightsOnPeg 65 = .ok (.ireturn, 1) := by decide +kernel
theorem dX11_nightsOnPeg_66 : decode cX11_nightsOnPeg 66 = .ok (.iinc 4 1, 3) := by decide +kernel
theorem dX11_nightsOnPeg_69 : decode cX11_nightsOnPeg 69 = .ok (.goto (-50), 3) := by decide +kernel
theorem dX11_nightsOnPeg_72 : decode cX11_nightsOnPeg 72 = .ok (.aload_n 0, 1) := by decide +kernel
theorem dX11_nightsOnPeg_73 : decode cX11_nightsOnPeg 73 = .ok (.getfield 61, 3) := by decide +kernel
theorem dX11_nightsOnPeg_76 : decode cX11_nightsOnPeg 76 = .ok (.aload_n 0, 1) := by decide +kernel
theorem dX11_nightsOnPeg_77 : decode cX11_nightsOnPeg 77 = .ok (.getfield 20, 3) := by decide +kernel
theorem dX11_nightsOnPeg_80 : decode cX11_nightsOnPeg 80 = .ok (.getfield 132, 3) := by decide +kernel
theorem dX11_nightsOnPeg_83 : decode cX11_nightsOnPeg 83 = .ok (.invokevirtual 288, 3) := by decide +kernel
theorem dX11_nightsOnPeg_86 : decode cX11_nightsOnPeg 86 = .ok (.aload_n 0, 1) := by decide +kernel
theorem dX11_nightsOnPeg_87 : decode cX11_nightsOnPeg 87 = .ok (.getfield 61, 3) := by decide +kernel
theorem dX11_nightsOnPeg_90 : decode cX11_nightsOnPeg 90 = .ok (.getfield 151, 3) := by decide +kernel
theorem dX11_nightsOnPeg_93 : decode cX11_nightsOnPeg 93 = .ok (.iload_n 1, 1) := by decide +kernel
theorem dX11_nightsOnPeg_94 : decode cX11_nightsOnPeg 94 = .ok (.iload_n 2, 1) := by decide +kernel
theorem dX11_nightsOnPeg_95 : decode cX11_nightsOnPeg 95 = .ok (.iastore, 1) := by decide +kernel
theorem dX11_nightsOnPeg_96 : decode cX11_nightsOnPeg 96 = .ok (.aload_n 0, 1) := by decide +kernel
theorem dX11_nightsOnPeg_97 : decode cX11_nightsOnPeg 97 = .ok (.getfield 61, 3) := by decide +kernel
theorem dX11_nightsOnPeg_100 : decode cX11_nightsOnPeg 100 = .ok (.aload_n 0, 1) := by decide +kernel
theorem dX11_nightsOnPeg_101 : decode cX11_nightsOnPeg 101 = .ok (.getfield 30, 3) := by decide +kernel
theorem dX11_nightsOnPeg_104 : decode cX11_nightsOnPeg 104 = .ok (.iload_n 1, 1) := by decide +kernel
theorem dX11_nightsOnPeg_105 : decode cX11_nightsOnPeg 105 = .ok (.iload_n 3, 1) := by decide +kernel
theorem dX11_nightsOnPeg_106 : decode cX11_nightsOnPeg 106 = .ok (.invokevirtual 337, 3) := by decide +kernel
theorem dX11_nightsOnPeg_109 : decode cX11_nightsOnPeg 109 = .ok (.ireturn, 1) := by decide +kernel
theorem dX11_dried_0 : decode cX11_dried 0 = .ok (.iload_n 1, 1) := by decide +kernel
theorem dX11_dried_1 : decode cX11_dried 1 = .ok (.invokestatic 129, 3) := by decide +kernel
theorem dX11_dried_4 : decode cX11_dried 4 = .ok (.iload_n 2, 1) := by decide +kernel
theorem dX11_dried_5 : decode cX11_dried 5 = .ok (.iconst 0, 1) := by decide +kernel
theorem dX11_dried_6 : decode cX11_dried 6 = .ok (.bipush 9, 2) := by decide +kernel
theorem dX11_dried_8 : decode cX11_dried 8 = .ok (.invokestatic 245, 3) := by decide +kernel
theorem dX11_dried_11 : decode cX11_dried 11 = .ok (.aload_n 0, 1) := by decide +kernel
theorem dX11_dried_12 : decode cX11_dried 12 = .ok (.getfield 61, 3) := by decide +kernel
theorem dX11_dried_15 : decode cX11_dried 15 = .ok (.aload_n 0, 1) := by decide +kernel
theorem dX11_dried_16 : decode cX11_dried 16 = .ok (.getfield 20, 3) := by decide +kernel
theorem dX11_dried_19 : decode cX11_dried 19 = .ok (.getfield 132, 3) := by decide +kernel
theorem dX11_dried_22 : decode cX11_dried 22 = .ok (.invokevirtual 288, 3) := by decide +kernel
theorem dX11_dried_25 : decode cX11_dried 25 = .ok (.aload_n 0, 1) := by decide +kernel
theorem dX11_dried_26 : decode cX11_dried 26 = .ok (.getfield 61, 3) := by decide +kernel
theorem dX11_dried_29 : decode cX11_dried 29 = .ok (.aload_n 0, 1) := by decide +kernel
theorem dX11_dried_30 : decode cX11_dried 30 = .ok (.getfield 30, 3) := by decide +kernel
theorem dX11_dried_33 : decode cX11_dried 33 = .ok (.iload_n 1, 1) := by decide +kernel
theorem dX11_dried_34 : decode cX11_dried 34 = .ok (.iload_n 2, 1) := by decide +kernel
theorem dX11_dried_35 : decode cX11_dried 35 = .ok (.invokevirtual 337, 3) := by decide +kernel
theorem dX11_dried_38 : decode cX11_dried 38 = .ok (.istore_n 3, 1) := by decide +kernel
theorem dX11_dried_39 : decode cX11_dried 39 = .ok (.iload_n 3, 1) := by decide +kernel
theorem dX11_dried_40 : decode cX11_dried 40 = .ok (.bipush 40, 2) := by decide +kernel
theorem dX11_dried_42 : decode cX11_dried 42 = .ok (.if_icmp .le 7, 3) := by decide +kernel
theorem dX11_dried_45 : decode cX11_dried 45 = .ok (.iconst (-1), 1) := by decide +kernel
theorem dX11_dried_46 : decode cX11_dried 46 = .ok (.goto 4, 3) := by decide +kernel
theorem dX11_dried_49 : decode cX11_dried 49 = .ok (.iload_n 3, 1) := by decide +kernel
theorem dX11_dried_50 : decode cX11_dried 50 = .ok (.ireturn, 1) := by decide +kernel
theorem dX11_ahead_0 : decode cX11_ahead 0 = .ok (.iload_n 1, 1) := by decide +kernel
theorem dX11_ahead_1 : decode cX11_ahead 1 = .ok (.invokestatic 129, 3) := by decide +kernel
theorem dX11_ahead_4 : decode cX11_ahead 4 = .ok (.iload_n 2, 1) := by decide +kernel
theorem dX11_ahead_5 : decode cX11_ahead 5 = .ok (.iconst 0, 1) := by decide +kernel
theorem dX11_ahead_6 : decode cX11_ahead 6 = .ok (.bipush 40, 2) := by decide +kernel
theorem dX11_ahead_8 : decode cX11_ahead 8 = .ok (.invokestatic 245, 3) := by decide +kernel
theorem dX11_ahead_11 : decode cX11_ahead 11 = .ok (.iload_n 3, 1) := by decide +kernel
theorem dX11_ahead_12 : decode cX11_ahead 12 = .ok (.iconst 0, 1) := by decide +kernel
theorem dX11_ahead_13 : decode cX11_ahead 13 = .ok (.bipush 9, 2) := by decide +kernel
theorem dX11_ahead_15 : decode cX11_ahead 15 = .ok (.invokestatic 245, 3) := by decide +kernel
theorem dX11_ahead_18 : decode cX11_ahead 18 = .ok (.iload 4, 2) := by decide +kernel
theorem dX11_ahead_20 : decode cX11_ahead 20 = .ok (.ifCond .lt 9, 3) := by decide +kernel
theorem dX11_ahead_23 : decode cX11_ahead 23 = .ok (.iload 4, 2) := by decide +kernel
theorem dX11_ahead_25 : decode cX11_ahead 25 = .ok (.iconst 2, 1) := by decide +kernel
theorem dX11_ahead_26 : decode cX11_ahead 26 = .ok (.if_icmp .le 11, 3) := by decide +kernel
theorem dX11_ahead_29 : decode cX11_ahead 29 = .ok (.new 172, 3) := by decide +kernel
theorem dX11_ahead_32 : decode cX11_ahead 32 = .ok (.dup, 1) := by decide +kernel
theorem dX11_ahead_33 : decode cX11_ahead 33 = .ok (.invokespecial 174, 3) := by decide +kernel
theorem dX11_ahead_36 : decode cX11_ahead 36 = .ok (.athrow, 1) := by decide +kernel
theorem dX11_ahead_37 : decode cX11_ahead 37 = .ok (.aload_n 0, 1) := by decide +kernel
theorem dX11_ahead_38 : decode cX11_ahead 38 = .ok (.getfield 61, 3) := by decide +kernel
theorem dX11_ahead_41 : decode cX11_ahead 41 = .ok (.aload_n 0, 1) := by decide +kernel
theorem dX11_ahead_42 : decode cX11_ahead 42 = .ok (.getfield 20, 3) := by decide +kernel
theorem dX11_ahead_45 : decode cX11_ahead 45 = .ok (.getfield 132, 3) := by decide +kernel
theorem dX11_ahead_48 : decode cX11_ahead 48 = .ok (.invokevirtual 288, 3) := by decide +kernel
theorem dX11_ahead_51 : decode cX11_ahead 51 = .ok (.iconst 0, 1) := by decide +kernel
theorem dX11_ahead_52 : decode cX11_ahead 52 = .ok (.istore 5, 2) := by decide +kernel
theorem dX11_ahead_54 : decode cX11_ahead 54 = .ok (.iload 5, 2) := by decide +kernel
theorem dX11_ahead_56 : decode cX11_ahead 56 = .ok (.iload_n 2, 1) := by decide +kernel
theorem dX11_ahead_57 : decode cX11_ahead 57 = .ok (.if_icmp .ge 21, 3) := by decide +kernel
theorem dX11_ahead_60 : decode cX11_ahead 60 = .ok (.aload_n 0, 1) := by decide +kernel
theorem dX11_ahead_61 : decode cX11_ahead 61 = .ok (.getfield 61, 3) := by decide +kernel
theorem dX11_ahead_64 : decode cX11_ahead 64 = .ok (.aload_n 0, 1) := by decide +kernel
theorem dX11_ahead_65 : decode cX11_ahead 65 = .ok (.getfield 30, 3) := by decide +kernel
theorem dX11_ahead_68 : decode cX11_ahead 68 = .ok (.iload_n 3, 1) := by decide +kernel
theorem dX11_ahead_69 : decode cX11_ahead 69 = .ok (.invokevirtual 341, 3) := by decide +kernel
theorem dX11_ahead_72 : decode cX11_ahead 72 = .ok (.iinc 5 1, 3) := by decide +kernel
theorem dX11_ahead_75 : decode cX11_ahead 75 = .ok (.goto (-21), 3) := by decide +kernel
theorem dX11_ahead_78 : decode cX11_ahead 78 = .ok (.iload 4, 2) := by decide +kernel
theorem dX11_ahead_80 : decode cX11_ahead 80 = .ok (.ifCond .ne 13, 3) := by decide +kernel
theorem dX11_ahead_83 : decode cX11_ahead 83 = .ok (.aload_n 0, 1) := by decide +kernel
theorem dX11_ahead_84 : decode cX11_ahead 84 = .ok (.getfield 61, 3) := by decide +kernel
theorem dX11_ahead_87 : decode cX11_ahead 87 = .ok (.getfield 141, 3) := by decide +kernel
theorem dX11_ahead_90 : decode cX11_ahead 90 = .ok (.iload_n 1, 1) := by decide +kernel
theorem dX11_ahead_91 : decode cX11_ahead 91 = .ok (.iaload, 1) := by decide +kernel
theorem dX11_ahead_92 : decode cX11_ahead 92 = .ok (.ireturn, 1) := by decide +kernel
theorem dX11_ahead_93 : decode cX11_ahead 93 = .ok (.iload 4, 2) := by decide +kernel
theorem dX11_ahead_95 : decode cX11_ahead 95 = .ok (.iconst 1, 1) := by decide +kernel
theorem dX11_ahead_96 : decode cX11_ahead 96 = .ok (.if_icmp .ne 15, 3) := by decide +kernel
theorem dX11_ahead_99 : decode cX11_ahead 99 = .ok (.aload_n 0, 1) := by decide +kernel
theorem dX11_ahead_100 : decode cX11_ahead 100 = .ok (.getfield 61, 3) := by decide +kernel
theorem dX11_ahead_103 : decode cX11_ahead 103 = .ok (.getfield 135, 3) := by decide +kernel
theorem dX11_ahead_106 : decode cX11_ahead 106 = .ok (.iload_n 1, 1) := by decide +kernel
theorem dX11_ahead_107 : decode cX11_ahead 107 = .ok (.iaload, 1) := by decide +kernel
theorem dX11_ahead_108 : decode cX11_ahead 108 = .ok (.goto 15, 3) := by decide +kernel
theorem dX11_ahead_111 : decode cX11_ahead 111 = .ok (.aload_n 0, 1) := by decide +kernel
theorem dX11_ahead_112 : decode cX11_ahead 112 = .ok (.getfield 30, 3) := by decide +kernel
theorem dX11_ahead_115 : decode cX11_ahead 115 = .ok (.aload_n 0, 1) := by decide +kernel
theorem dX11_ahead_116 : decode cX11_ahead 116 = .ok (.getfield 61, 3) := by decide +kernel
theorem dX11_ahead_119 : decode cX11_ahead 119 = .ok (.iload_n 1, 1) := by decide +kernel
theorem dX11_ahead_120 : decode cX11_ahead 120 = .ok (.invokevirtual 154, 3) := by decide +kernel
theorem dX11_ahead_123 : decode cX11_ahead 123 = .ok (.ireturn, 1) := by decide +kernel
theorem dX11_tide_0 : decode cX11_tide 0 = .ok (.iload_n 1, 1) := by decide +kernel
theorem dX11_tide_1 : decode cX11_tide 1 = .ok (.iconst 0, 1) := by decide +kernel
theorem dX11_tide_2 : decode cX11_tide 2 = .ok (.sipush 160, 3) := by decide +kernel
theorem dX11_tide_5 : decode cX11_tide 5 = .ok (.invokestatic 245, 3) := by decide +kernel
theorem dX11_tide_8 : decode cX11_tide 8 = .ok (.iload_n 2, 1) := by decide +kernel
theorem dX11_tide_9 : decode cX11_tide 9 = .ok (.iconst 0, 1) := by decide +kernel
theorem dX11_tide_10 : decode cX11_tide 10 = .ok (.bipush 9, 2) := by decide +kernel
theorem dX11_tide_12 : decode cX11_tide 12 = .ok (.invokestatic 245, 3) := by decide +kernel
theorem dX11_tide_15 : decode cX11_tide 15 = .ok (.aload_n 0, 1) := by decide +kernel
theorem dX11_tide_16 : decode cX11_tide 16 = .ok (.getfield 61, 3) := by decide +kernel
theorem dX11_tide_19 : decode cX11_tide 19 = .ok (.aload_n 0, 1) := by decide +kernel
theorem dX11_tide_20 : decode cX11_tide 20 = .ok (.getfield 20, 3) := by decide +kernel
theorem dX11_tide_23 : decode cX11_tide 23 = .ok (.getfield 132, 3) := by decide +kernel
theorem dX11_tide_26 : decode cX11_tide 26 = .ok (.invokevirtual 288, 3) := by decide +kernel
theorem dX11_tide_29 : decode cX11_tide 29 = .ok (.iconst 0, 1) := by decide +kernel
theorem dX11_tide_30 : decode cX11_tide 30 = .ok (.istore_n 3, 1) := by decide +kernel
theorem dX11_tide_31 : decode cX11_tide 31 = .ok (.iload_n 3, 1) := by decide +kernel
theorem dX11_tide_32 : decode cX11_tide 32 = .ok (.bipush 40, 2) := by decide +kernel
theorem dX11_tide_34 : decode cX11_tide 34 = .ok (.if_icmp .gt 38, 3) := by decide +kernel
theorem dX11_tide_37 : decode cX11_tide 37 = .ok (.aload_n 0, 1) := by decide +kernel
theorem dX11_tide_38 : decode cX11_tide 38 = .ok (.getfield 30, 3) := by decide +kernel
theorem dX11_tide_41 : decode cX11_tide 41 = .ok (.aload_n 0, 1) := by decide +kernel
theorem dX11_tide_42 : decode cX11_tide 42 = .ok (.getfield 61, 3) := by decide +kernel
theorem dX11_tide_45 : decode cX11_tide 45 = .ok (.invokevirtual 175, 3) := by decide +kernel
theorem dX11_tide_48 : decode cX11_tide 48 = .ok (.iload_n 1, 1) := by decide +kernel
theorem dX11_tide_49 : decode cX11_tide 49 = .ok (.if_icmp .lt 5, 3) := by decide +kernel
theorem dX11_tide_52 : decode cX11_tide 52 = .ok (.iload_n 3, 1) := by decide +kernel
theorem dX11_tide_53 : decode cX11_tide 53 = .ok (.ireturn, 1) := by decide +kernel
theorem dX11_tide_54 : decode cX11_tide 54 = .ok (.aload_n 0, 1) := by decide +kernel
theorem dX11_tide_55 : decode cX11_tide 55 = .ok (.getfield 61, 3) := by decide +kernel
theorem dX11_tide_58 : decode cX11_tide 58 = .ok (.aload_n 0, 1) := by decide +kernel
theorem dX11_tide_59 : decode cX11_tide 59 = .ok (.getfield 30, 3) := by decide +kernel
theorem dX11_tide_62 : decode cX11_tide 62 = .ok (.iload_n 2, 1) := by decide +kernel
theorem dX11_tide_63 : decode cX11_tide 63 = .ok (.invokevirtual 341, 3) := by decide +kernel
theorem dX11_tide_66 : decode cX11_tide 66 = .ok (.iinc 3 1, 3) := by decide +kernel
theorem dX11_tide_69 : decode cX11_tide 69 = .ok (.goto (-38), 3) := by decide +kernel
theorem dX11_tide_72 : decode cX11_tide 72 = .ok (.iconst (-1), 1) := by decide +kernel
theorem dX11_tide_73 : decode cX11_tide 73 = .ok (.ireturn, 1) := by decide +kernel
theorem dX11_late_0 : decode cX11_late 0 = .ok (.iload_n 1, 1) := by decide +kernel
theorem dX11_late_1 : decode cX11_late 1 = .ok (.iconst 0, 1) := by decide +kernel
theorem dX11_late_2 : decode cX11_late 2 = .ok (.bipush 9, 2) := by decide +kernel
theorem dX11_late_4 : decode cX11_late 4 = .ok (.invokestatic 245, 3) := by decide +kernel
theorem dX11_late_7 : decode cX11_late 7 = .ok (.aload_n 0, 1) := by decide +kernel
theorem dX11_late_8 : decode cX11_late 8 = .ok (.getfield 61, 3) := by decide +kernel
theorem dX11_late_11 : decode cX11_late 11 = .ok (.aload_n 0, 1) := by decide +kernel
theorem dX11_late_12 : decode cX11_late 12 = .ok (.getfield 20, 3) := by decide +kernel
theorem dX11_late_15 : decode cX11_late 15 = .ok (.getfield 132, 3) := by decide +kernel
theorem dX11_late_18 : decode cX11_late 18 = .ok (.invokevirtual 288, 3) := by decide +kernel
theorem dX11_late_21 : decode cX11_late 21 = .ok (.iconst 0, 1) := by decide +kernel
theorem dX11_late_22 : decode cX11_late 22 = .ok (.istore_n 2, 1) := by decide +kernel
theorem dX11_late_23 : decode cX11_late 23 = .ok (.iconst 0, 1) := by decide +kernel
theorem dX11_late_24 : decode cX11_late 24 = .ok (.istore_n 3, 1) := by decide +kernel
theorem dX11_late_25 : decode cX11_late 25 = .ok (.iload_n 3, 1) := by decide +kernel
theorem dX11_late_26 : decode cX11_late 26 = .ok (.bipush 40, 2) := by decide +kernel
theorem dX11_late_28 : decode cX11_late 28 = .ok (.if_icmp .gt 28, 3) := by decide +kernel
theorem dX11_late_31 : decode cX11_late 31 = .ok (.iload_n 2, 1) := by decide +kernel
theorem dX11_late_32 : decode cX11_late 32 = .ok (.aload_n 0, 1) := by decide +kernel
theorem dX11_late_33 : decode cX11_late 33 = .ok (.invokevirtual 345, 3) := by decide +kernel
theorem dX11_late_36 : decode cX11_late 36 = .ok (.ior, 1) := by decide +kernel
theorem dX11_late_37 : decode cX11_late 37 = .ok (.istore_n 2, 1) := by decide +kernel
theorem dX11_late_38 : decode cX11_late 38 = .ok (.aload_n 0, 1) := by decide +kernel
theorem dX11_late_39 : decode cX11_late 39 = .ok (.getfield 61, 3) := by decide +kernel
theorem dX11_late_42 : decode cX11_late 42 = .ok (.aload_n 0, 1) := by decide +kernel
theorem dX11_late_43 : decode cX11_late 43 = .ok (.getfield 30, 3) := by decide +kernel
theorem dX11_late_46 : decode cX11_late 46 = .ok (.iload_n 1, 1) := by decide +kernel
theorem dX11_late_47 : decode cX11_late 47 = .ok (.invokevirtual 341, 3) := by decide +kernel
theorem dX11_late_50 : decode cX11_late 50 = .ok (.iinc 3 1, 3) := by decide +kernel
theorem dX11_late_53 : decode cX11_late 53 = .ok (.goto (-28), 3) := by decide +kernel
theorem dX11_late_56 : decode cX11_late 56 = .ok (.iload_n 2, 1) := by decide +kernel
theorem dX11_late_57 : decode cX11_late 57 = .ok (.ireturn, 1) := by decide +kernel
theorem dX11_duesNotMet_0 : decode cX11_duesNotMet 0 = .ok (.iconst 0, 1) := by decide +kernel
theorem dX11_duesNotMet_1 : decode cX11_duesNotMet 1 = .ok (.istore_n 1, 1) := by decide +kernel
theorem dX11_duesNotMet_2 : decode cX11_duesNotMet 2 = .ok (.iconst 0, 1) := by decide +kernel
theorem dX11_duesNotMet_3 : decode cX11_duesNotMet 3 = .ok (.istore_n 2, 1) := by decide +kernel
theorem dX11_duesNotMet_4 : decode cX11_duesNotMet 4 = .ok (.iload_n 2, 1) := by decide +kernel
theorem dX11_duesNotMet_5 : decode cX11_duesNotMet 5 = .ok (.aload_n 0, 1) := by decide +kernel
theorem dX11_duesNotMet_6 : decode cX11_duesNotMet 6 = .ok (.getfield 20, 3) := by decide +kernel
theorem dX11_duesNotMet_9 : decode cX11_duesNotMet 9 = .ok (.getfield 200, 3) := by decide +kernel
theorem dX11_duesNotMet_12 : decode cX11_duesNotMet 12 = .ok (.if_icmp .ge 55, 3) := by decide +kernel
theorem dX11_duesNotMet_15 : decode cX11_duesNotMet 15 = .ok (.aload_n 0, 1) := by decide +kernel
theorem dX11_duesNotMet_16 : decode cX11_duesNotMet 16 = .ok (.getfield 20, 3) := by decide +kernel
theorem dX11_duesNotMet_19 : decode cX11_duesNotMet 19 = .ok (.iload_n 2, 1) := by decide +kernel
theorem dX11_duesNotMet_20 : decode cX11_duesNotMet 20 = .ok (.invokevirtual 209, 3) := by decide +kernel
theorem dX11_duesNotMet_23 : decode cX11_duesNotMet 23 = .ok (.aload_n 0, 1) := by decide +kernel
theorem dX11_duesNotMet_24 : decode cX11_duesNotMet 24 = .ok (.getfield 61, 3) := by decide +kernel
theorem dX11_duesNotMet_27 : decode cX11_duesNotMet 27 = .ok (.getfield 348, 3) := by decide +kernel
theorem dX11_duesNotMet_30 : decode cX11_duesNotMet 30 = .ok (.if_icmp .ne 31, 3) := by decide +kernel
theorem dX11_duesNotMet_33 : decode cX11_duesNotMet 33 = .ok (.aload_n 0, 1) := by decide +kernel
theorem dX11_duesNotMet_34 : decode cX11_duesNotMet 34 = .ok (.getfield 30, 3) := by decide +kernel
theorem dX11_duesNotMet_37 : decode cX11_duesNotMet 37 = .ok (.aload_n 0, 1) := by decide +kernel
theorem dX11_duesNotMet_38 : decode cX11_duesNotMet 38 = .ok (.getfield 61, 3) := by decide +kernel
theorem dX11_duesNotMet_41 : decode cX11_duesNotMet 41 = .ok (.invokevirtual 175, 3) := by decide +kernel
theorem dX11_duesNotMet_44 : decode cX11_duesNotMet 44 = .ok (.aload_n 0, 1) := by decide +kernel
theorem dX11_duesNotMet_45 : decode cX11_duesNotMet 45 = .ok (.getfield 20, 3) := by decide +kernel
theorem dX11_duesNotMet_48 : decode cX11_duesNotMet 48 = .ok (.iload_n 2, 1) := by decide +kernel
theorem dX11_duesNotMet_49 : decode cX11_duesNotMet 49 = .ok (.invokevirtual 206, 3) := by decide +kernel
theorem dX11_duesNotMet_52 : decode cX11_duesNotMet 52 = .ok (.if_icmp .ge 9, 3) := by decide +kernel
theorem dX11_duesNotMet_55 : decode cX11_duesNotMet 55 = .ok (.iload_n 1, 1) := by decide +kernel
theorem dX11_duesNotMet_56 : decode cX11_duesNotMet 56 = .ok (.iconst 1, 1) := by decide +kernel
theorem dX11_duesNotMet_57 : decode cX11_duesNotMet 57 = .ok (.iload_n 2, 1) := by decide +kernel
theorem dX11_duesNotMet_58 : decode cX11_duesNotMet 58 = .ok (.ishl, 1) := by decide +kernel
theorem dX11_duesNotMet_59 : decode cX11_duesNotMet 59 = .ok (.ior, 1) := by decide +kernel
theorem dX11_duesNotMet_60 : decode cX11_duesNotMet 60 = .ok (.istore_n 1, 1) := by decide +kernel
theorem dX11_duesNotMet_61 : decode cX11_duesNotMet 61 = .ok (.iinc 2 1, 3) := by decide +kernel
theorem dX11_duesNotMet_64 : decode cX11_duesNotMet 64 = .ok (.goto (-60), 3) := by decide +kernel
theorem dX11_duesNotMet_67 : decode cX11_duesNotMet 67 = .ok (.iload_n 1, 1) := by decide +kernel
theorem dX11_duesNotMet_68 : decode cX11_duesNotMet 68 = .ok (.ireturn, 1) := by decide +kernel
theorem dX11_enough_0 : decode cX11_enough 0 = .ok (.iload_n 1, 1) := by decide +kernel
theorem dX11_enough_1 : decode cX11_enough 1 = .ok (.iconst 0, 1) := by decide +kernel
theorem dX11_enough_2 : decode cX11_enough 2 = .ok (.bipush 99, 2) := by decide +kernel
theorem dX11_enough_4 : decode cX11_enough 4 = .ok (.invokestatic 245, 3) := by decide +kernel
theorem dX11_enough_7 : decode cX11_enough 7 = .ok (.iconst 0, 1) := by decide +kernel
theorem dX11_enough_8 : decode cX11_enough 8 = .ok (.istore_n 2, 1) := by decide +kernel
theorem dX11_enough_9 : decode cX11_enough 9 = .ok (.iload_n 2, 1) := by decide +kernel
theorem dX11_enough_10 : decode cX11_enough 10 = .ok (.bipush 99, 2) := by decide +kernel
theorem dX11_enough_12 : decode cX11_enough 12 = .ok (.if_icmp .gt 32, 3) := by decide +kernel
theorem dX11_enough_15 : decode cX11_enough 15 = .ok (.aload_n 0, 1) := by decide +kernel
theorem dX11_enough_16 : decode cX11_enough 16 = .ok (.getfield 20, 3) := by decide +kernel
theorem dX11_enough_19 : decode cX11_enough 19 = .ok (.getfield 215, 3) := by decide +kernel
theorem dX11_enough_22 : decode cX11_enough 22 = .ok (.iload_n 2, 1) := by decide +kernel
theorem dX11_enough_23 : decode cX11_enough 23 = .ok (.aload_n 0, 1) := by decide +kernel
theorem dX11_enough_24 : decode cX11_enough 24 = .ok (.getfield 20, 3) := by decide +kernel
theorem dX11_enough_27 : decode cX11_enough 27 = .ok (.getfield 351, 3) := by decide +kernel
theorem dX11_enough_30 : decode cX11_enough 30 = .ok (.imul, 1) := by decide +kernel
theorem dX11_enough_31 : decode cX11_enough 31 = .ok (.iadd, 1) := by decide +kernel
theorem dX11_enough_32 : decode cX11_enough 32 = .ok (.iload_n 1, 1) := by decide +kernel
theorem dX11_enough_33 : decode cX11_enough 33 = .ok (.if_icmp .lt 5, 3) := by decide +kernel
theorem dX11_enough_36 : decode cX11_enough 36 = .ok (.iload_n 2, 1) := by decide +kernel
theorem dX11_enough_37 : decode cX11_enough 37 = .ok (.ireturn, 1) := by decide +kernel
theorem dX11_enough_38 : decode cX11_enough 38 = .ok (.iinc 2 1, 3) := by decide +kernel
theorem dX11_enough_41 : decode cX11_enough 41 = .ok (.goto (-32), 3) := by decide +kernel
theorem dX11_enough_44 : decode cX11_enough 44 = .ok (.iconst (-1), 1) := by decide +kernel
theorem dX11_enough_45 : decode cX11_enough 45 = .ok (.ireturn, 1) := by decide +kernel
theorem dX11_trial_0 : decode cX11_trial 0 = .ok (.iload_n 1, 1) := by decide +kernel
theorem dX11_trial_1 : decode cX11_trial 1 = .ok (.iconst 0, 1) := by decide +kernel
theorem dX11_trial_2 : decode cX11_trial 2 = .ok (.bipush 40, 2) := by decide +kernel
theorem dX11_trial_4 : decode cX11_trial 4 = .ok (.invokestatic 245, 3) := by decide +kernel
theorem dX11_trial_7 : decode cX11_trial 7 = .ok (.aload_n 0, 1) := by decide +kernel
theorem dX11_trial_8 : decode cX11_trial 8 = .ok (.iload_n 1, 1) := by decide +kernel
theorem dX11_trial_9 : decode cX11_trial 9 = .ok (.aload_n 0, 1) := by decide +kernel
theorem dX11_trial_10 : decode cX11_trial 10 = .ok (.getfield 20, 3) := by decide +kernel
theorem dX11_trial_13 : decode cX11_trial 13 = .ok (.getfield 252, 3) := by decide +kernel
theorem dX11_trial_16 : decode cX11_trial 16 = .ok (.invokevirtual 354, 3) := by decide +kernel
theorem dX11_trial_19 : decode cX11_trial 19 = .ok (.iload_n 2, 1) := by decide +kernel
theorem dX11_trial_20 : decode cX11_trial 20 = .ok (.ifCond .eq 16, 3) := by decide +kernel
theorem dX11_trial_23 : decode cX11_trial 23 = .ok (.aload_n 0, 1) := by decide +kernel
theorem dX11_trial_24 : decode cX11_trial 24 = .ok (.getfield 24, 3) := by decide +kernel
theorem dX11_trial_27 : decode cX11_trial 27 = .ok (.getfield 132, 3) := by decide +kernel
theorem dX11_trial_30 : decode cX11_trial 30 = .ok (.invokevirtual 358, 3) := by decide +kernel
theorem dX11_trial_33 : decode cX11_trial 33 = .ok (.goto 17, 3) := by decide +kernel
theorem dX11_trial_36 : decode cX11_trial 36 = .ok (.aload_n 0, 1) := by decide +kernel
theorem dX11_trial_37 : decode cX11_trial 37 = .ok (.getfield 30, 3) := by decide +kernel
theorem dX11_trial_40 : decode cX11_trial 40 = .ok (.aload_n 0, 1) := by decide +kernel
theorem dX11_trial_41 : decode cX11_trial 41 = .ok (.getfield 24, 3) := by decide +kernel
theorem dX11_trial_44 : decode cX11_trial 44 = .ok (.getfield 132, 3) := by decide +kernel
theorem dX11_trial_47 : decode cX11_trial 47 = .ok (.invokevirtual 175, 3) := by decide +kernel
theorem dX11_trial_50 : decode cX11_trial 50 = .ok (.ireturn, 1) := by decide +kernel
theorem dX11_span_0 : decode cX11_span 0 = .ok (.iload_n 1, 1) := by decide +kernel
theorem dX11_span_1 : decode cX11_span 1 = .ok (.iconst 0, 1) := by decide +kernel
theorem dX11_span_2 : decode cX11_span 2 = .ok (.bipush 40, 2) := by decide +kernel
theorem dX11_span_4 : decode cX11_span 4 = .ok (.invokestatic 245, 3) := by decide +kernel
theorem dX11_span_7 : decode cX11_span 7 = .ok (.iload_n 2, 1) := by decide +kernel
theorem dX11_span_8 : decode cX11_span 8 = .ok (.ifCond .eq 7, 3) := by decide +kernel
theorem dX11_span_11 : decode cX11_span 11 = .ok (.iconst 0, 1) := by decide +kernel
theorem dX11_span_12 : decode cX11_span 12 = .ok (.goto 6, 3) := by decide +kernel
theorem dX11_span_15 : decode cX11_span 15 = .ok (.sipush 160, 3) := by decide +kernel
theorem dX11_span_18 : decode cX11_span 18 = .ok (.istore_n 3, 1) := by decide +kernel
theorem dX11_span_19 : decode cX11_span 19 = .ok (.iconst 1, 1) := by decide +kernel
theorem dX11_span_20 : decode cX11_span 20 = .ok (.istore 4, 2) := by decide +kernel
theorem dX11_span_22 : decode cX11_span 22 = .ok (.iload 4, 2) := by decide +kernel
theorem dX11_span_24 : decode cX11_span 24 = .ok (.bipush 6, 2) := by decide +kernel
theorem dX11_span_26 : decode cX11_span 26 = .ok (.if_icmp .gt 52, 3) := by decide +kernel
theorem dX11_span_29 : decode cX11_span 29 = .ok (.aload_n 0, 1) := by decide +kernel
theorem dX11_span_30 : decode cX11_span 30 = .ok (.iload_n 1, 1) := by decide +kernel
theorem dX11_span_31 : decode cX11_span 31 = .ok (.iload 4, 2) := by decide +kernel
theorem dX11_span_33 : decode cX11_span 33 = .ok (.invokevirtual 354, 3) := by decide +kernel
theorem dX11_span_36 : decode cX11_span 36 = .ok (.aload_n 0, 1) := by decide +kernel
theorem dX11_span_37 : decode cX11_span 37 = .ok (.getfield 30, 3) := by decide +kernel
theorem dX11_span_40 : decode cX11_span 40 = .ok (.aload_n 0, 1) := by decide +kernel
theorem dX11_span_41 : decode cX11_span 41 = .ok (.getfield 24, 3) := by decide +kernel
theorem dX11_span_44 : decode cX11_span 44 = .ok (.getfield 132, 3) := by decide +kernel
theorem dX11_span_47 : decode cX11_span 47 = .ok (.invokevirtual 175, 3) := by decide +kernel
theorem dX11_span_50 : decode cX11_span 50 = .ok (.istore 5, 2) := by decide +kernel
theorem dX11_span_52 : decode cX11_span 52 = .ok (.iload_n 2, 1) := by decide +kernel
theorem dX11_span_53 : decode cX11_span 53 = .ok (.ifCond .eq 12, 3) := by decide +kernel
theorem dX11_span_56 : decode cX11_span 56 = .ok (.iload_n 3, 1) := by decide +kernel
theorem dX11_span_57 : decode cX11_span 57 = .ok (.iload 5, 2) := by decide +kernel
theorem dX11_span_59 : decode cX11_span 59 = .ok (.invokestatic 236, 3) := by decide +kernel
theorem dX11_span_62 : decode cX11_span 62 = .ok (.goto 9, 3) := by decide +kernel
theorem dX11_span_65 : decode cX11_span 65 = .ok (.iload_n 3, 1) := by decide +kernel
theorem dX11_span_66 : decode cX11_span 66 = .ok (.iload 5, 2) := by decide +kernel
theorem dX11_span_68 : decode cX11_span 68 = .ok (.invokestatic 276, 3) := by decide +kernel
theorem dX11_span_71 : decode cX11_span 71 = .ok (.istore_n 3, 1) := by decide +kernel
theorem dX11_span_72 : decode cX11_span 72 = .ok (.iinc 4 1, 3) := by decide +kernel
theorem dX11_span_75 : decode cX11_span 75 = .ok (.goto (-53), 3) := by decide +kernel
theorem dX11_span_78 : decode cX11_span 78 = .ok (.iload_n 3, 1) := by decide +kernel
theorem dX11_span_79 : decode cX11_span 79 = .ok (.ireturn, 1) := by decide +kernel
theorem dX11_tryNights_0 : decode cX11_tryNights 0 = .ok (.aload_n 0, 1) := by decide +kernel
theorem dX11_tryNights_1 : decode cX11_tryNights 1 = .ok (.getfield 24, 3) := by decide +kernel
theorem dX11_tryNights_4 : decode cX11_tryNights 4 = .ok (.aload_n 0, 1) := by decide +kernel
theorem dX11_tryNights_5 : decode cX11_tryNights 5 = .ok (.getfield 20, 3) := by decide +kernel
theorem dX11_tryNights_8 : decode cX11_tryNights 8 = .ok (.invokevirtual 89, 3) := by decide +kernel
theorem dX11_tryNights_11 : decode cX11_tryNights 11 = .ok (.aload_n 0, 1) := by decide +kernel
theorem dX11_tryNights_12 : decode cX11_tryNights 12 = .ok (.getfield 24, 3) := by decide +kernel
theorem dX11_tryNights_15 : decode cX11_tryNights 15 = .ok (.iload_n 2, 1) := by decide +kernel
theorem dX11_tryNights_16 : decode cX11_tryNights 16 = .ok (.putfield 252, 3) := by decide +kernel
theorem dX11_tryNights_19 : decode cX11_tryNights 19 = .ok (.iconst 0, 1) := by decide +kernel
theorem dX11_tryNights_20 : decode cX11_tryNights 20 = .ok (.istore_n 3, 1) := by decide +kernel
theorem dX11_tryNights_21 : decode cX11_tryNights 21 = .ok (.iload_n 3, 1) := by decide +kernel
theorem dX11_tryNights_22 : decode cX11_tryNights 22 = .ok (.iload_n 1, 1) := by decide +kernel
theorem dX11_tryNights_23 : decode cX11_tryNights 23 = .ok (.if_icmp .ge 21, 3) := by decide +kernel
theorem dX11_tryNights_26 : decode cX11_tryNights 26 = .ok (.aload_n 0, 1) := by decide +kernel
theorem dX11_tryNights_27 : decode cX11_tryNights 27 = .ok (.getfield 24, 3) := by decide +kernel
theorem dX11_tryNights_30 : decode cX11_tryNights 30 = .ok (.aload_n 0, 1) := by decide +kernel
theorem dX11_tryNights_31 : decode cX11_tryNights 31 = .ok (.getfield 30, 3) := by decide +kernel
theorem dX11_tryNights_34 : decode cX11_tryNights 34 = .ok (.invokevirtual 248, 3) := by decide +kernel
theorem dX11_tryNights_37 : decode cX11_tryNights 37 = .ok (.pop, 1) := by decide +kernel
theorem dX11_tryNights_38 : decode cX11_tryNights 38 = .ok (.iinc 3 1, 3) := by decide +kernel
theorem dX11_tryNights_41 : decode cX11_tryNights 41 = .ok (.goto (-20), 3) := by decide +kernel
theorem dX11_tryNights_44 : decode cX11_tryNights 44 = .ok (.return_, 1) := by decide +kernel
theorem dX11_watch_0 : decode cX11_watch 0 = .ok (.iconst 0, 1) := by decide +kernel
theorem dX11_watch_1 : decode cX11_watch 1 = .ok (.istore_n 1, 1) := by decide +kernel
theorem dX11_watch_2 : decode cX11_watch 2 = .ok (.iconst 0, 1) := by decide +kernel
theorem dX11_watch_3 : decode cX11_watch 3 = .ok (.istore_n 2, 1) := by decide +kernel
theorem dX11_watch_4 : decode cX11_watch 4 = .ok (.iload_n 2, 1) := by decide +kernel
theorem dX11_watch_5 : decode cX11_watch 5 = .ok (.bipush 8, 2) := by decide +kernel
theorem dX11_watch_7 : decode cX11_watch 7 = .ok (.if_icmp .ge 40, 3) := by decide +kernel
theorem dX11_watch_10 : decode cX11_watch 10 = .ok (.aload_n 0, 1) := by decide +kernel
theorem dX11_watch_11 : decode cX11_watch 11 = .ok (.getfield 20, 3) := by decide +kernel
theorem dX11_watch_14 : decode cX11_watch 14 = .ok (.getfield 132, 3) := by decide +kernel
theorem dX11_watch_17 : decode cX11_watch 17 = .ok (.iload_n 2, 1) := by decide +kernel
theorem dX11_watch_18 : decode cX11_watch 18 = .ok (.invokevirtual 147, 3) := by decide +kernel
theorem dX11_watch_21 : decode cX11_watch 21 = .ok (.ifCond .eq 20, 3) := by decide +kernel
theorem dX11_watch_24 : decode cX11_watch 24 = .ok (.iload_n 1, 1) := by decide +kernel
theorem dX11_watch_25 : decode cX11_watch 25 = .ok (.iconst 1, 1) := by decide +kernel
theorem dX11_watch_26 : decode cX11_watch 26 = .ok (.aload_n 0, 1) := by decide +kernel
theorem dX11_watch_27 : decode cX11_watch 27 = .ok (.getfield 20, 3) := by decide +kernel
theorem dX11_watch_30 : decode cX11_watch 30 = .ok (.getfield 132, 3) := by decide +kernel
theorem dX11_watch_33 : decode cX11_watch 33 = .ok (.getfield 151, 3) := by decide +kernel
theorem dX11_watch_36 : decode cX11_watch 36 = .ok (.iload_n 2, 1) := by decide +kernel
theorem dX11_watch_37 : decode cX11_watch 37 = .ok (.iaload, 1) := by decide +kernel
theorem dX11_watch_38 : decode cX11_watch 38 = .ok (.ishl, 1) := by decide +kernel
theorem dX11_watch_39 : decode cX11_watch 39 = .ok (.ior, 1) := by decide +kernel
theorem dX11_watch_40 : decode cX11_watch 40 = .ok (.istore_n 1, 1) := by decide +kernel
theorem dX11_watch_41 : decode cX11_watch 41 = .ok (.iinc 2 1, 3) := by decide +kernel
theorem dX11_watch_44 : decode cX11_watch 44 = .ok (.goto (-40), 3) := by decide +kernel
theorem dX11_watch_47 : decode cX11_watch 47 = .ok (.sipush 255, 3) := by decide +kernel
theorem dX11_watch_50 : decode cX11_watch 50 = .ok (.istore_n 2, 1) := by decide +kernel
theorem dX11_watch_51 : decode cX11_watch 51 = .ok (.iconst 0, 1) := by decide +kernel
theorem dX11_watch_52 : decode cX11_watch 52 = .ok (.istore_n 3, 1) := by decide +kernel
theorem dX11_watch_53 : decode cX11_watch 53 = .ok (.iload_n 3, 1) := by decide +kernel
theorem dX11_watch_54 : decode cX11_watch 54 = .ok (.sipush 255, 3) := by decide +kernel
theorem dX11_watch_57 : decode cX11_watch 57 = .ok (.if_icmp .gt 42, 3) := by decide +kernel
theorem dX11_watch_60 : decode cX11_watch 60 = .ok (.iload_n 3, 1) := by decide +kernel
theorem dX11_watch_61 : decode cX11_watch 61 = .ok (.iload_n 3, 1) := by decide +kernel
theorem dX11_watch_62 : decode cX11_watch 62 = .ok (.iconst 1, 1) := by decide +kernel
theorem dX11_watch_63 : decode cX11_watch 63 = .ok (.ishl, 1) := by decide +kernel
theorem dX11_watch_64 : decode cX11_watch 64 = .ok (.ior, 1) := by decide +kernel
theorem dX11_watch_65 : decode cX11_watch 65 = .ok (.iload_n 3, 1) := by decide +kernel
theorem dX11_watch_66 : decode cX11_watch 66 = .ok (.iconst 1, 1) := by decide +kernel
theorem dX11_watch_67 : decode cX11_watch 67 = .ok (.ishr, 1) := by decide +kernel
theorem dX11_watch_68 : decode cX11_watch 68 = .ok (.ior, 1) := by decide +kernel
theorem dX11_watch_69 : decode cX11_watch 69 = .ok (.istore 4, 2) := by decide +kernel
theorem dX11_watch_71 : decode cX11_watch 71 = .ok (.iload_n 1, 1) := by decide +kernel
theorem dX11_watch_72 : decode cX11_watch 72 = .ok (.iload 4, 2) := by decide +kernel
theorem dX11_watch_74 : decode cX11_watch 74 = .ok (.iconst (-1), 1) := by decide +kernel
theorem dX11_watch_75 : decode cX11_watch 75 = .ok (.ixor, 1) := by decide +kernel
theorem dX11_watch_76 : decode cX11_watch 76 = .ok (.iand, 1) := by decide +kernel
theorem dX11_watch_77 : decode cX11_watch 77 = .ok (.ifCond .ne 16, 3) := by decide +kernel
theorem dX11_watch_80 : decode cX11_watch 80 = .ok (.iload_n 3, 1) := by decide +kernel
theorem dX11_watch_81 : decode cX11_watch 81 = .ok (.invokestatic 309, 3) := by decide +kernel
theorem dX11_watch_84 : decode cX11_watch 84 = .ok (.iload_n 2, 1) := by decide +kernel
theorem dX11_watch_85 : decode cX11_watch 85 = .ok (.invokestatic 309, 3) := by decide +kernel
theorem dX11_watch_88 : decode cX11_watch 88 = .ok (.if_icmp .ge 5, 3) := by decide +kernel
theorem dX11_watch_91 : decode cX11_watch 91 = .ok (.iload_n 3, 1) := by decide +kernel
theorem dX11_watch_92 : decode cX11_watch 92 = .ok (.istore_n 2, 1) := by decide +kernel
theorem dX11_watch_93 : decode cX11_watch 93 = .ok (.iinc 3 1, 3) := by decide +kernel
theorem dX11_watch_96 : decode cX11_watch 96 = .ok (.goto (-43), 3) := by decide +kernel
theorem dX11_watch_99 : decode cX11_watch 99 = .ok (.iload_n 2, 1) := by decide +kernel
theorem dX11_watch_100 : decode cX11_watch 100 = .ok (.ireturn, 1) := by decide +kernel
theorem dX11_led_0 : decode cX11_led 0 = .ok (.iload_n 1, 1) := by decide +kernel
theorem dX11_led_1 : decode cX11_led 1 = .ok (.invokestatic 129, 3) := by decide +kernel
theorem dX11_led_4 : decode cX11_led 4 = .ok (.iconst 0, 1) := by decide +kernel
theorem dX11_led_5 : decode cX11_led 5 = .ok (.istore_n 3, 1) := by decide +kernel
theorem dX11_led_6 : decode cX11_led 6 = .ok (.iconst (-1), 1) := by decide +kernel
theorem dX11_led_7 : decode cX11_led 7 = .ok (.istore 4, 2) := by decide +kernel
theorem dX11_led_9 : decode cX11_led 9 = .ok (.aload_n 0, 1) := by decide +kernel
theorem dX11_led_10 : decode cX11_led 10 = .ok (.getfield 20, 3) := by decide +kernel
theorem dX11_led_13 : decode cX11_led 13 = .ok (.invokevirtual 361, 3) := by decide +kernel
theorem dX11_led_16 : decode cX11_led 16 = .ok (.iconst 1, 1) := by decide +kernel
theorem dX11_led_17 : decode cX11_led 17 = .ok (.isub, 1) := by decide +kernel
theorem dX11_led_18 : decode cX11_led 18 = .ok (.istore 5, 2) := by decide +kernel
theorem dX11_led_20 : decode cX11_led 20 = .ok (.iload 5, 2) := by decide +kernel
theorem dX11_led_22 : decode cX11_led 22 = .ok (.ifCond .lt 38, 3) := by decide +kernel
theorem dX11_led_25 : decode cX11_led 25 = .ok (.aload_n 0, 1) := by decide +kernel
theorem dX11_led_26 : decode cX11_led 26 = .ok (.getfield 20, 3) := by decide +kernel
theorem dX11_led_29 : decode cX11_led 29 = .ok (.iload 5, 2) := by decide +kernel
theorem dX11_led_31 : decode cX11_led 31 = .ok (.iconst 1, 1) := by decide +kernel
theorem dX11_led_32 : decode cX11_led 32 = .ok (.invokevirtual 364, 3) := by decide +kernel
theorem dX11_led_35 : decode cX11_led 35 = .ok (.iload_n 1, 1) := by decide +kernel
theorem dX11_led_36 : decode cX11_led 36 = .ok (.if_icmp .ne 18, 3) := by decide +kernel
theorem dX11_led_39 : decode cX11_led 39 = .ok (.iinc 3 1, 3) := by decide +kernel
theorem dX11_led_42 : decode cX11_led 42 = .ok (.aload_n 0, 1) := by decide +kernel
theorem dX11_led_43 : decode cX11_led 43 = .ok (.getfield 20, 3) := by decide +kernel
theorem dX11_led_46 : decode cX11_led 46 = .ok (.iload 5, 2) := by decide +kernel
theorem dX11_led_48 : decode cX11_led 48 = .ok (.iconst 2, 1) := by decide +kernel
theorem dX11_led_49 : decode cX11_led 49 = .ok (.invokevirtual 364, 3) := by decide +kernel
theorem dX11_led_52 : decode cX11_led 52 = .ok (.istore 4, 2) := by decide +kernel
theorem dX11_led_54 : decode cX11_led 54 = .ok (.iinc 5 (-1), 3) := by decide +kernel
theorem dX11_led_57 : decode cX11_led 57 = .ok (.goto (-37), 3) := by decide +kernel
theorem dX11_led_60 : decode cX11_led 60 = .ok (.iload_n 2, 1) := by decide +kernel
theorem dX11_led_61 : decode cX11_led 61 = .ok (.ifCond .eq 8, 3) := by decide +kernel
theorem dX11_led_64 : decode cX11_led 64 = .ok (.iload 4, 2) := by decide +kernel
theorem dX11_led_66 : decode cX11_led 66 = .ok (.goto 4, 3) := by decide +kernel
theorem dX11_led_69 : decode cX11_led 69 = .ok (.iload_n 3, 1) := by decide +kernel
theorem dX11_led_70 : decode cX11_led 70 = .ok (.ireturn, 1) := by decide +kernel
theorem dX11_log_0 : decode cX11_log 0 = .ok (.iload_n 2, 1) := by decide +kernel
theorem dX11_log_1 : decode cX11_log 1 = .ok (.ifCond .lt 8, 3) := by decide +kernel
theorem dX11_log_4 : decode cX11_log 4 = .ok (.iload_n 2, 1) := by decide +kernel
theorem dX11_log_5 : decode cX11_log 5 = .ok (.iconst 4, 1) := by decide +kernel
theorem dX11_log_6 : decode cX11_log 6 = .ok (.if_icmp .lt 11, 3) := by decide +kernel
theorem dX11_log_9 : decode cX11_log 9 = .ok (.new 172, 3) := by decide +kernel
theorem dX11_log_12 : decode cX11_log 12 = .ok (.dup, 1) := by decide +kernel
theorem dX11_log_13 : decode cX11_log 13 = .ok (.invokespecial 174, 3) := by decide +kernel
theorem dX11_log_16 : decode cX11_log 16 = .ok (.athrow, 1) := by decide +kernel
theorem dX11_log_17 : decode cX11_log 17 = .ok (.iload_n 1, 1) := by decide +kernel
theorem dX11_log_18 : decode cX11_log 18 = .ok (.ifCond .lt 14, 3) := by decide +kernel
theorem dX11_log_21 : decode cX11_log 21 = .ok (.iload_n 1, 1) := by decide +kernel
theorem dX11_log_22 : decode cX11_log 22 = .ok (.aload_n 0, 1) := by decide +kernel
theorem dX11_log_23 : decode cX11_log 23 = .ok (.getfield 20, 3) := by decide +kernel
theorem dX11_log_26 : decode cX11_log 26 = .ok (.invokevirtual 361, 3) := by decide +kernel
theorem dX11_log_29 : decode cX11_log 29 = .ok (.if_icmp .lt 5, 3) := by decide +kernel
theorem dX11_log_32 : decode cX11_log 32 = .ok (.iconst (-1), 1) := by decide +kernel
theorem dX11_log_33 : decode cX11_log 33 = .ok (.ireturn, 1) := by decide +kernel
theorem dX11_log_34 : decode cX11_log 34 = .ok (.aload_n 0, 1) := by decide +kernel
theorem dX11_log_35 : decode cX11_log 35 = .ok (.getfield 20, 3) := by decide +kernel
theorem dX11_log_38 : decode cX11_log 38 = .ok (.iload_n 1, 1) := by decide +kernel
theorem dX11_log_39 : decode cX11_log 39 = .ok (.iload_n 2, 1) := by decide +kernel
theorem dX11_log_40 : decode cX11_log 40 = .ok (.invokevirtual 364, 3) := by decide +kernel
theorem dX11_log_43 : decode cX11_log 43 = .ok (.ireturn, 1) := by decide +kernel
theorem dX11_count_0 : decode cX11_count 0 = .ok (.iload_n 1, 1) := by decide +kernel
theorem dX11_count_1 : decode cX11_count 1 = .ok (.tableswitch 195 0 13 #[71, 79, 87, 95, 103, 114, 125, 133, 141, 149, 157, 168, 179, 187], 71) := by decide +kernel
theorem dX11_count_72 : decode cX11_count 72 = .ok (.aload_n 0, 1) := by decide +kernel
theorem dX11_count_73 : decode cX11_count 73 = .ok (.getfield 20, 3) := by decide +kernel
theorem dX11_count_76 : decode cX11_count 76 = .ok (.getfield 212, 3) := by decide +kernel
theorem dX11_count_79 : decode cX11_count 79 = .ok (.ireturn, 1) := by decide +kernel
theorem dX11_count_80 : decode cX11_count 80 = .ok (.aload_n 0, 1) := by decide +kernel
theorem dX11_count_81 : decode cX11_count 81 = .ok (.getfield 20, 3) := by decide +kernel
theorem dX11_count_84 : decode cX11_count 84 = .ok (.getfield 200, 3) := by decide +kernel
theorem dX11_count_87 : decode cX11_count 87 = .ok (.ireturn, 1) := by decide +kernel
theorem dX11_count_88 : decode cX11_count 88 = .ok (.aload_n 0, 1) := by decide +kernel
theorem dX11_count_89 : decode cX11_count 89 = .ok (.getfield 20, 3) := by decide +kernel
theorem dX11_count_92 : decode cX11_count 92 = .ok (.getfield 102, 3) := by decide +kernel
theorem dX11_count_95 : decode cX11_count 95 = .ok (.ireturn, 1) := by decide +kernel
theorem dX11_count_96 : decode cX11_count 96 = .ok (.aload_n 0, 1) := by decide +kernel
theorem dX11_count_97 : decode cX11_count 97 = .ok (.getfield 30, 3) := by decide +kernel
theorem dX11_count_100 : decode cX11_count 100 = .ok (.getfield 116, 3) := by decide +kernel
theorem dX11_count_103 : decode cX11_count 103 = .ok (.ireturn, 1) := by decide +kernel
theorem dX11_count_104 : decode cX11_count 104 = .ok (.aload_n 0, 1) := by decide +kernel
theorem dX11_count_105 : decode cX11_count 105 = .ok (.getfield 20, 3) := by decide +kernel
theorem dX11_count_108 : decode cX11_count 108 = .ok (.getfield 132, 3) := by decide +kernel
theorem dX11_count_111 : decode cX11_count 111 = .ok (.getfield 348, 3) := by decide +kernel
theorem dX11_count_114 : decode cX11_count 114 = .ok (.ireturn, 1) := by decide +kernel
theorem dX11_count_115 : decode cX11_count 115 = .ok (.aload_n 0, 1) := by decide +kernel
theorem dX11_count_116 : decode cX11_count 116 = .ok (.getfield 20, 3) := by decide +kernel
theorem dX11_count_119 : decode cX11_count 119 = .ok (.getfield 132, 3) := by decide +kernel
theorem dX11_count_122 : decode cX11_count 122 = .ok (.getfield 367, 3) := by decide +kernel
theorem dX11_count_125 : decode cX11_count 125 = .ok (.ireturn, 1) := by decide +kernel
theorem dX11_count_126 : decode cX11_count 126 = .ok (.aload_n 0, 1) := by decide +kernel
theorem dX11_count_127 : decode cX11_count 127 = .ok (.getfield 20, 3) := by decide +kernel
theorem dX11_count_130 : decode cX11_count 130 = .ok (.getfield 215, 3) := by decide +kernel
theorem dX11_count_133 : decode cX11_count 133 = .ok (.ireturn, 1) := by decide +kernel
theorem dX11_count_134 : decode cX11_count 134 = .ok (.aload_n 0, 1) := by decide +kernel
theorem dX11_count_135 : decode cX11_count 135 = .ok (.getfield 20, 3) := by decide +kernel
theorem dX11_count_138 : decode cX11_count 138 = .ok (.getfield 351, 3) := by decide +kernel
theorem dX11_count_141 : decode cX11_count 141 = .ok (.ireturn, 1) := by decide +kernel
theorem dX11_count_142 : decode cX11_count 142 = .ok (.aload_n 0, 1) := by decide +kernel
theorem dX11_count_143 : decode cX11_count 143 = .ok (.getfield 20, 3) := by decide +kernel
theorem dX11_count_146 : decode cX11_count 146 = .ok (.getfield 370, 3) := by decide +kernel
theorem dX11_count_149 : decode cX11_count 149 = .ok (.ireturn, 1) := by decide +kernel
theorem dX11_count_150 : decode cX11_count 150 = .ok (.aload_n 0, 1) := by decide +kernel
theorem dX11_count_151 : decode cX11_count 151 = .ok (.getfield 20, 3) := by decide +kernel
theorem dX11_count_154 : decode cX11_count 154 = .ok (.getfield 373, 3) := by decide +kernel
theorem dX11_count_157 : decode cX11_count 157 = .ok (.ireturn, 1) := by decide +kernel
theorem dX11_count_158 : decode cX11_count 158 = .ok (.aload_n 0, 1) := by decide +kernel
theorem dX11_count_159 : decode cX11_count 159 = .ok (.getfield 20, 3) := by decide +kernel
theorem dX11_count_162 : decode cX11_count 162 = .ok (.getfield 132, 3) := by decide +kernel
theorem dX11_count_165 : decode cX11_count 165 = .ok (.getfield 376, 3) := by decide +kernel
theorem dX11_count_168 : decode cX11_count 168 = .ok (.ireturn, 1) := by decide +kernel
theorem dX11_count_169 : decode cX11_count 169 = .ok (.aload_n 0, 1) := by decide +kernel
theorem dX11_count_170 : decode cX11_count 170 = .ok (.getfield 20, 3) := by decide +kernel
theorem dX11_count_173 : decode cX11_count 173 = .ok (.getfield 132, 3) := by decide +kernel
theorem dX11_count_176 : decode cX11_count 176 = .ok (.invokevirtual 379, 3) := by decide +kernel
theorem dX11_count_179 : decode cX11_count 179 = .ok (.ireturn, 1) := by decide +kernel
theorem dX11_count_180 : decode cX11_count 180 = .ok (.aload_n 0, 1) := by decide +kernel
theorem dX11_count_181 : decode cX11_count 181 = .ok (.getfield 20, 3) := by decide +kernel
theorem dX11_count_184 : decode cX11_count 184 = .ok (.invokevirtual 361, 3) := by decide +kernel
theorem dX11_count_187 : decode cX11_count 187 = .ok (.ireturn, 1) := by decide +kernel
theorem dX11_count_188 : decode cX11_count 188 = .ok (.aload_n 0, 1) := by decide +kernel
theorem dX11_count_189 : decode cX11_count 189 = .ok (.getfield 47, 3) := by decide +kernel
theorem dX11_count_192 : decode cX11_count 192 = .ok (.getfield 382, 3) := by decide +kernel
theorem dX11_count_195 : decode cX11_count 195 = .ok (.ireturn, 1) := by decide +kernel
theorem dX11_count_196 : decode cX11_count 196 = .ok (.iconst (-1), 1) := by decide +kernel
theorem dX11_count_197 : decode cX11_count 197 = .ok (.ireturn, 1) := by decide +kernel
theorem dX12_init_0 : decode cX12_init 0 = .ok (.aload_n 0, 1) := by decide +kernel
theorem dX12_init_1 : decode cX12_init 1 = .ok (.invokespecial 1, 3) := by decide +kernel
theorem dX12_init_4 : decode cX12_init 4 = .ok (.aload_n 0, 1) := by decide +kernel
theorem dX12_init_5 : decode cX12_init 5 = .ok (.sipush 750, 3) := by decide +kernel
theorem dX12_init_8 : decode cX12_init 8 = .ok (.newarray .int, 2) := by decide +kernel
theorem dX12_init_10 : decode cX12_init 10 = .ok (.putfield 7, 3) := by decide +kernel
theorem dX12_init_13 : decode cX12_init 13 = .ok (.aload_n 0, 1) := by decide +kernel
theorem dX12_init_14 : decode cX12_init 14 = .ok (.sipush 750, 3) := by decide +kernel
theorem dX12_init_17 : decode cX12_init 17 = .ok (.newarray .int, 2) := by decide +kernel
theorem dX12_init_19 : decode cX12_init 19 = .ok (.putfield 13, 3) := by decide +kernel
theorem dX12_init_22 : decode cX12_init 22 = .ok (.aload_n 0, 1) := by decide +kernel
theorem dX12_init_23 : decode cX12_init 23 = .ok (.sipush 750, 3) := by decide +kernel
theorem dX12_init_26 : decode cX12_init 26 = .ok (.newarray .int, 2) := by decide +kernel
theorem dX12_init_28 : decode cX12_init 28 = .ok (.putfield 16, 3) := by decide +kernel
theorem dX12_init_31 : decode cX12_init 31 = .ok (.aload_n 0, 1) := by decide +kernel
theorem dX12_init_32 : decode cX12_init 32 = .ok (.sipush 350, 3) := by decide +kernel
theorem dX12_init_35 : decode cX12_init 35 = .ok (.newarray .int, 2) := by decide +kernel
theorem dX12_init_37 : decode cX12_init 37 = .ok (.putfield 19, 3) := by decide +kernel
theorem dX12_init_40 : decode cX12_init 40 = .ok (.aload_n 0, 1) := by decide +kernel
theorem dX12_init_41 : decode cX12_init 41 = .ok (.sipush 4200, 3) := by decide +kernel
theorem dX12_init_44 : decode cX12_init 44 = .ok (.newarray .int, 2) := by decide +kernel
theorem dX12_init_46 : decode cX12_init 46 = .ok (.putfield 22, 3) := by decide +kernel
theorem dX12_init_49 : decode cX12_init 49 = .ok (.aload_n 0, 1) := by decide +kernel
theorem dX12_init_50 : decode cX12_init 50 = .ok (.sipush 400, 3) := by decide +kernel
theorem dX12_init_53 : decode cX12_init 53 = .ok (.newarray .int, 2) := by decide +kernel
theorem dX12_init_55 : decode cX12_init 55 = .ok (.putfield 25, 3) := by decide +kernel
theorem dX12_init_58 : decode cX12_init 58 = .ok (.aload_n 0, 1) := by decide +kernel
theorem dX12_init_59 : decode cX12_init 59 = .ok (.iconst (-1), 1) := by decide +kernel
theorem dX12_init_60 : decode cX12_init 60 = .ok (.putfield 28, 3) := by decide +kernel
theorem dX12_init_63 : decode cX12_init 63 = .ok (.aload_n 0, 1) := by decide +kernel
theorem dX12_init_64 : decode cX12_init 64 = .ok (.bipush 8, 2) := by decide +kernel
theorem dX12_init_66 : decode cX12_init 66 = .ok (.newarray .int, 2) := by decide +kernel
theorem dX12_init_68 : decode cX12_init 68 = .ok (.putfield 32, 3) := by decide +kernel
theorem dX12_init_71 : decode cX12_init 71 = .ok (.aload_n 0, 1) := by decide +kernel
theorem dX12_init_72 : decode cX12_init 72 = .ok (.bipush 56, 2) := by decide +kernel
theorem dX12_init_74 : decode cX12_init 74 = .ok (.newarray .int, 2) := by decide +kernel
theorem dX12_init_76 : decode cX12_init 76 = .ok (.putfield 35, 3) := by decide +kernel
theorem dX12_init_79 : decode cX12_init 79 = .ok (.aload_n 0, 1) := by decide +kernel
theorem dX12_init_80 : decode cX12_init 80 = .ok (.sipush 1449, 3) := by decide +kernel
theorem dX12_init_83 : decode cX12_init 83 = .ok (.newarray .int, 2) := by decide +kernel
theorem dX12_init_85 : decode cX12_init 85 = .ok (.putfield 38, 3) := by decide +kernel
theorem dX12_init_88 : decode cX12_init 88 = .ok (.aload_n 0, 1) := by decide +kernel
theorem dX12_init_89 : decode cX12_init 89 = .ok (.bipush 64, 2) := by decide +kernel
theorem dX12_init_91 : decode cX12_init 91 = .ok (.newarray .int, 2) := by decide +kernel
theorem dX12_init_93 : decode cX12_init 93 = .ok (.putfield 41, 3) := by decide +kernel
theorem dX12_init_96 : decode cX12_init 96 = .ok (.aload_n 0, 1) := by decide +kernel
theorem dX12_init_97 : decode cX12_init 97 = .ok (.bipush 32, 2) := by decide +kernel
theorem dX12_init_99 : decode cX12_init 99 = .ok (.newarray .boolean, 2) := by decide +kernel
theorem dX12_init_101 : decode cX12_init 101 = .ok (.putfield 44, 3) := by decide +kernel
theorem dX12_init_104 : decode cX12_init 104 = .ok (.aload_n 0, 1) := by decide +kernel
theorem dX12_init_105 : decode cX12_init 105 = .ok (.bipush 8, 2) := by decide +kernel
theorem dX12_init_107 : decode cX12_init 107 = .ok (.newarray .int, 2) := by decide +kernel
theorem dX12_init_109 : decode cX12_init 109 = .ok (.putfield 48, 3) := by decide +kernel
theorem dX12_init_112 : decode cX12_init 112 = .ok (.aload_n 0, 1) := by decide +kernel
theorem dX12_init_113 : decode cX12_init 113 = .ok (.getfield 7, 3) := by decide +kernel
theorem dX12_init_116 : decode cX12_init 116 = .ok (.iconst 1, 1) := by decide +kernel
theorem dX12_init_117 : decode cX12_init 117 = .ok (.iconst (-1), 1) := by decide +kernel
theorem dX12_init_118 : decode cX12_init 118 = .ok (.iastore, 1) := by decide +kernel
theorem dX12_init_119 : decode cX12_init 119 = .ok (.aload_n 0, 1) := by decide +kernel
theorem dX12_init_120 : decode cX12_init 120 = .ok (.getfield 7, 3) := by decide +kernel
theorem dX12_init_123 : decode cX12_init 123 = .ok (.iconst 5, 1) := by decide +kernel
theorem dX12_init_124 : decode cX12_init 124 = .ok (.bipush 30, 2) := by decide +kernel
theorem dX12_init_126 : decode cX12_init 126 = .ok (.iastore, 1) := by decide +kernel
theorem dX12_init_127 : decode cX12_init 127 = .ok (.aload_n 0, 1) := by decide +kernel
theorem dX12_init_128 : decode cX12_init 128 = .ok (.getfield 7, 3) := by decide +kernel
theorem dX12_init_131 : decode cX12_init 131 = .ok (.bipush 6, 2) := by decide +kernel
theorem dX12_init_133 : decode cX12_init 133 = .ok (.iconst 5, 1) := by decide +kernel
theorem dX12_init_134 : decode cX12_init 134 = .ok (.iastore, 1) := by decide +kernel
theorem dX12_init_135 : decode cX12_init 135 = .ok (.aload_n 0, 1) := by decide +kernel
theorem dX12_init_136 : decode cX12_init 136 = .ok (.getfield 7, 3) := by decide +kernel
theorem dX12_init_139 : decode cX12_init 139 = .ok (.bipush 12, 2) := by decide +kernel
theorem dX12_init_141 : decode cX12_init 141 = .ok (.iconst 1, 1) := by decide +kernel
theorem dX12_init_142 : decode cX12_init 142 = .ok (.iastore, 1) := by decide +kernel
theorem dX12_init_143 : decode cX12_init 143 = .ok (.iconst 0, 1) := by decide +kernel
theorem dX12_init_144 : decode cX12_init 144 = .ok (.istore_n 1, 1) := by decide +kernel
theorem dX12_init_145 : decode cX12_init 145 = .ok (.iload_n 1, 1) := by decide +kernel
theorem dX12_init_146 : decode cX12_init 146 = .ok (.bipush 8, 2) := by decide +kernel
theorem dX12_init_148 : decode cX12_init 148 = .ok (.if_icmp .ge 33, 3) := by decide +kernel
theorem dX12_init_151 : decode cX12_init 151 = .ok (.aload_n 0, 1) := by decide +kernel
theorem dX12_init_152 : decode cX12_init 152 = .ok (.iload_n 1, 1) := by decide +kernel
theorem dX12_init_153 : decode cX12_init 153 = .ok (.iconst 4, 1) := by decide +kernel
theorem dX12_init_154 : decode cX12_init 154 = .ok (.iconst 1, 1) := by decide +kernel
theorem dX12_init_155 : decode cX12_init 155 = .ok (.invokevirtual 51, 3) := by decide +kernel
theorem dX12_init_158 : decode cX12_init 158 = .ok (.aload_n 0, 1) := by decide +kernel
theorem dX12_init_159 : decode cX12_init 159 = .ok (.iload_n 1, 1) := by decide +kernel
theorem dX12_init_160 : decode cX12_init 160 = .ok (.iconst 5, 1) := by decide +kernel
theorem dX12_init_161 : decode cX12_init 161 = .ok (.iload_n 1, 1) := by decide +kernel
theorem dX12_init_162 : decode cX12_init 162 = .ok (.invokevirtual 51, 3) := by decide +kernel
theorem dX12_init_165 : decode cX12_init 165 = .ok (.aload_n 0, 1) := by decide +kernel
theorem dX12_init_166 : decode cX12_init 166 = .ok (.getfield 7, 3) := by decide +kernel
theorem dX12_init_169 : decode cX12_init 169 = .ok (.bipush 62, 2) := by decide +kernel
theorem dX12_init_171 : decode cX12_init 171 = .ok (.iload_n 1, 1) := by decide +kernel
theorem dX12_init_172 : decode cX12_init 172 = .ok (.iadd, 1) := by decide +kernel
theorem dX12_init_173 : decode cX12_init 173 = .ok (.iconst 3, 1) := by decide +kernel
theorem dX12_init_174 : decode cX12_init 174 = .ok (.iastore, 1) := by decide +kernel
theorem dX12_init_175 : decode cX12_init 175 = .ok (.iinc 1 1, 3) := by decide +kernel
theorem dX12_init_178 : decode cX12_init 178 = .ok (.goto (-33), 3) := by decide +kernel
theorem dX12_init_181 : decode cX12_init 181 = .ok (.return_, 1) := by decide +kernel
theorem dX12_thrown_0 : decode cX12_thrown 0 = .ok (.aload_n 0, 1) := by decide +kernel
theorem dX12_thrown_1 : decode cX12_thrown 1 = .ok (.getfield 55, 3) := by decide +kernel
theorem dX12_thrown_4 : decode cX12_thrown 4 = .ok (.ireturn, 1) := by decide +kernel
theorem dX12_isIn_0 : decode cX12_isIn 0 = .ok (.iload_n 0, 1) := by decide +kernel
theorem dX12_isIn_1 : decode cX12_isIn 1 = .ok (.iload_n 1, 1) := by decide +kernel
theorem dX12_isIn_2 : decode cX12_isIn 2 = .ok (.if_icmp .lt 12, 3) := by decide +kernel
theorem dX12_isIn_5 : decode cX12_isIn 5 = .ok (.iload_n 0, 1) := by decide +kernel
theorem dX12_isIn_6 : decode cX12_isIn 6 = .ok (.iload_n 2, 1) := by decide +kernel
theorem dX12_isIn_7 : decode cX12_isIn 7 = .ok (.if_icmp .gt 7, 3) := by decide +kernel
theorem dX12_isIn_10 : decode cX12_isIn 10 = .ok (.iconst 1, 1) := by decide +kernel
theorem dX12_isIn_11 : decode cX12_isIn 11 = .ok (.goto 4, 3) := by decide +kernel
theorem dX12_isIn_14 : decode cX12_isIn 14 = .ok (.iconst 0, 1) := by decide +kernel
theorem dX12_isIn_15 : decode cX12_isIn 15 = .ok (.ireturn, 1) := by decide +kernel
theorem dX12_lesser_0 : decode cX12_lesser 0 = .ok (.iload_n 0, 1) := by decide +kernel
theorem dX12_lesser_1 : decode cX12_lesser 1 = .ok (.iload_n 1, 1) := by decide +kernel
theorem dX12_lesser_2 : decode cX12_lesser 2 = .ok (.if_icmp .ge 7, 3) := by decide +kernel
theorem dX12_lesser_5 : decode cX12_lesser 5 = .ok (.iload_n 0, 1) := by decide +kernel
theorem dX12_lesser_6 : decode cX12_lesser 6 = .ok (.goto 4, 3) := by decide +kernel
theorem dX12_lesser_9 : decode cX12_lesser 9 = .ok (.iload_n 1, 1) := by decide +kernel
theorem dX12_lesser_10 : decode cX12_lesser 10 = .ok (.ireturn, 1) := by decide +kernel
theorem dX12_greater_0 : decode cX12_greater 0 = .ok (.iload_n 0, 1) := by decide +kernel
theorem dX12_greater_1 : decode cX12_greater 1 = .ok (.iload_n 1, 1) := by decide +kernel
theorem dX12_greater_2 : decode cX12_greater 2 = .ok (.if_icmp .le 7, 3) := by decide +kernel
theorem dX12_greater_5 : decode cX12_greater 5 = .ok (.iload_n 0, 1) := by decide +kernel
theorem dX12_greater_6 : decode cX12_greater 6 = .ok (.goto 4, 3) := by decide +kernel
theorem dX12_greater_9 : decode cX12_greater 9 = .ok (.iload_n 1, 1) := by decide +kernel
theorem dX12_greater_10 : decode cX12_greater 10 = .ok (.ireturn, 1) := by decide +kernel
theorem dX12_isOf_0 : decode cX12_isOf 0 = .ok (.iload_n 0, 1) := by decide +kernel
theorem dX12_isOf_1 : decode cX12_isOf 1 = .ok (.iload_n 1, 1) := by decide +kernel
theorem dX12_isOf_2 : decode cX12_isOf 2 = .ok (.ishr, 1) := by decide +kernel
theorem dX12_isOf_3 : decode cX12_isOf 3 = .ok (.iconst 1, 1) := by decide +kernel
theorem dX12_isOf_4 : decode cX12_isOf 4 = .ok (.iand, 1) := by decide +kernel
theorem dX12_isOf_5 : decode cX12_isOf 5 = .ok (.iconst 1, 1) := by decide +kernel
theorem dX12_isOf_6 : decode cX12_isOf 6 = .ok (.if_icmp .ne 7, 3) := by decide +kernel
theorem dX12_isOf_9 : decode cX12_isOf 9 = .ok (.iconst 1, 1) := by decide +kernel
theorem dX12_isOf_10 : decode cX12_isOf 10 = .ok (.goto 4, 3) := by decide +kernel
theorem dX12_isOf_13 : decode cX12_isOf 13 = .ok (.iconst 0, 1) := by decide +kernel
theorem dX12_isOf_14 : decode cX12_isOf 14 = .ok (.ireturn, 1) := by decide +kernel
theorem dX12_bits_0 : decode cX12_bits 0 = .ok (.iconst 0, 1) := by decide +kernel
theorem dX12_bits_1 : decode cX12_bits 1 = .ok (.istore_n 1, 1) := by decide +kernel
theorem dX12_bits_2 : decode cX12_bits 2 = .ok (.iconst 0, 1) := by decide +kernel
theorem dX12_bits_3 : decode cX12_bits 3 = .ok (.istore_n 2, 1) := by decide +kernel
theorem dX12_bits_4 : decode cX12_bits 4 = .ok (.iload_n 2, 1) := by decide +kernel
theorem dX12_bits_5 : decode cX12_bits 5 = .ok (.bipush 31, 2) := by decide +kernel
theorem dX12_bits_7 : decode cX12_bits 7 = .ok (.if_icmp .ge 17, 3) := by decide +kernel
theorem dX12_bits_10 : decode cX12_bits 10 = .ok (.iload_n 1, 1) := by decide +kernel
theorem dX12_bits_11 : decode cX12_bits 11 = .ok (.iload_n 0, 1) := by decide +kernel
theorem dX12_bits_12 : decode cX12_bits 12 = .ok (.iload_n 2, 1) := by decide +kernel
theorem dX12_bits_13 : decode cX12_bits 13 = .ok (.ishr, 1) := by decide +kernel
theorem dX12_bits_14 : decode cX12_bits 14 = .ok (.iconst 1, 1) := by decide +kernel
theorem dX12_bits_15 : decode cX12_bits 15 = .ok (.iand, 1) := by decide +kernel
theorem dX12_bits_16 : decode cX12_bits 16 = .ok (.iadd, 1) := by decide +kernel
theorem dX12_bits_17 : decode cX12_bits 17 = .ok (.istore_n 1, 1) := by decide +kernel
theorem dX12_bits_18 : decode cX12_bits 18 = .ok (.iinc 2 1, 3) := by decide +kernel
theorem dX12_bits_21 : decode cX12_bits 21 = .ok (.goto (-17), 3) := by decide +kernel
theorem dX12_bits_24 : decode cX12_bits 24 = .ok (.iload_n 1, 1) := by decide +kernel
theorem dX12_bits_25 : decode cX12_bits 25 = .ok (.ireturn, 1) := by decide +kernel
theorem dX12_of_0 : decode cX12_of 0 = .ok (.aload_n 0, 1) := by decide +kernel
theorem dX12_of_1 : decode cX12_of 1 = .ok (.getfield 7, 3) := by decide +kernel
theorem dX12_of_4 : decode cX12_of 4 = .ok (.bipush 14, 2) := by decide +kernel
theorem dX12_of_6 : decode cX12_of 6 = .ok (.bipush 6, 2) := by decide +kernel
theorem dX12_of_8 : decode cX12_of 8 = .ok (.iload_n 1, 1) := by decide +kernel
theorem dX12_of_9 : decode cX12_of 9 = .ok (.imul, 1) := by decide +kernel
theorem dX12_of_10 : decode cX12_of 10 = .ok (.iadd, 1) := by decide +kernel
theorem dX12_of_11 : decode cX12_of 11 = .ok (.iload_n 2, 1) := by decide +kernel
theorem dX12_of_12 : decode cX12_of 12 = .ok (.iadd, 1) := by decide +kernel
theorem dX12_of_13 : decode cX12_of 13 = .ok (.iaload, 1) := by decide +kernel
theorem dX12_of_14 : decode cX12_of 14 = .ok (.ireturn, 1) := by decide +kernel
theorem dX12_has_0 : decode cX12_has 0 = .ok (.aload_n 0, 1) := by decide +kernel
theorem dX12_has_1 : decode cX12_has 1 = .ok (.getfield 7, 3) := by decide +kernel
theorem dX12_has_4 : decode cX12_has 4 = .ok (.bipush 14, 2) := by decide +kernel
theorem dX12_has_6 : decode cX12_has 6 = .ok (.bipush 6, 2) := by decide +kernel
theorem dX12_has_8 : decode cX12_has 8 = .ok (.iload_n 1, 1) := by decide +kernel
theorem dX12_has_9 : decode cX12_has 9 = .ok (.imul, 1) := by decide +kernel
theorem dX12_has_10 : decode cX12_has 10 = .ok (.iadd, 1) := by decide +kernel
theorem dX12_has_11 : decode cX12_has 11 = .ok (.iload_n 2, 1) := by decide +kernel
theorem dX12_has_12 : decode cX12_has 12 = .ok (.iadd, 1) := by decide +kernel
theorem dX12_has_13 : decode cX12_has 13 = .ok (.iload_n 3, 1) := by decide +kernel
theorem dX12_has_14 : decode cX12_has 14 = .ok (.iastore, 1) := by decide +kernel
theorem dX12_has_15 : decode cX12_has 15 = .ok (.return_, 1) := by decide +kernel
theorem dX12_ofSoap_0 : decode cX12_ofSoap 0 = .ok (.aload_n 0, 1) := by decide +kernel
theorem dX12_ofSoap_1 : decode cX12_ofSoap 1 = .ok (.getfield 7, 3) := by decide +kernel
theorem dX12_ofSoap_4 : decode cX12_ofSoap 4 = .ok (.bipush 70, 2) := by decide +kernel
theorem dX12_ofSoap_6 : decode cX12_ofSoap 6 = .ok (.iconst 4, 1) := by decide +kernel
theorem dX12_ofSoap_7 : decode cX12_ofSoap 7 = .ok (.iload_n 1, 1) := by decide +kernel
theorem dX12_ofSoap_8 : decode cX12_ofSoap 8 = .ok (.imul, 1) := by decide +kernel
theorem dX12_ofSoap_9 : decode cX12_ofSoap 9 = .ok (.iadd, 1) := by decide +kernel
theorem dX12_ofSoap_10 : decode cX12_ofSoap 10 = .ok (.iload_n 2, 1) := by decide +kernel
theorem dX12_ofSoap_11 : decode cX12_ofSoap 11 = .ok (.iadd, 1) := by decide +kernel
theorem dX12_ofSoap_12 : decode cX12_ofSoap 12 = .ok (.iaload, 1) := by decide +kernel
theorem dX12_ofSoap_13 : decode cX12_ofSoap 13 = .ok (.ireturn, 1) := by decide +kernel
theorem dX12_isPart_0 : decode cX12_isPart 0 = .ok (.iload_n 0, 1) := by decide +kernel
theorem dX12_isPart_1 : decode cX12_isPart 1 = .ok (.iconst 0, 1) := by decide +kernel
theorem dX12_isPart_2 : decode cX12_isPart 2 = .ok (.bipush 7, 2) := by decide +kernel
theorem dX12_isPart_4 : decode cX12_isPart 4 = .ok (.invokestatic 58, 3) := by decide +kernel
theorem dX12_isPart_7 : decode cX12_isPart 7 = .ok (.ireturn, 1) := by decide +kernel
theorem dX12_isSoap_0 : decode cX12_isSoap 0 = .ok (.iload_n 1, 1) := by decide +kernel
theorem dX12_isSoap_1 : decode cX12_isSoap 1 = .ok (.iconst 0, 1) := by decide +kernel
theorem dX12_isSoap_2 : decode cX12_isSoap 2 = .ok (.aload_n 0, 1) := by decide +kernel
theorem dX12_isSoap_3 : decode cX12_isSoap 3 = .ok (.getfield 7, 3) := by decide +kernel
theorem dX12_isSoap_6 : decode cX12_isSoap 6 = .ok (.iconst 3, 1) := by decide +kernel
theorem dX12_isSoap_7 : decode cX12_isSoap 7 = .ok (.iaload, 1) := by decide +kernel
theorem dX12_isSoap_8 : decode cX12_isSoap 8 = .ok (.iconst 1, 1) := by decide +kernel
theorem dX12_isSoap_9 : decode cX12_isSoap 9 = .ok (.isub, 1) := by decide +kernel
theorem dX12_isSoap_10 : decode cX12_isSoap 10 = .ok (.invokestatic 58, 3) := by decide +kernel
theorem dX12_isSoap_13 : decode cX12_isSoap 13 = .ok (.ireturn, 1) := by decide +kernel
theorem dX12_partOn_0 : decode cX12_partOn 0 = .ok (.iconst 0, 1) := by decide +kernel
theorem dX12_partOn_1 : decode cX12_partOn 1 = .ok (.istore_n 2, 1) := by decide +kernel
theorem dX12_partOn_2 : decode cX12_partOn 2 = .ok (.aload_n 0, 1) := by decide +kernel
theorem dX12_partOn_3 : decode cX12_partOn 3 = .ok (.iload_n 2, 1) := by decide +kernel
theorem dX12_partOn_4 : decode cX12_partOn 4 = .ok (.iconst 5, 1) := by decide +kernel
theorem dX12_partOn_5 : decode cX12_partOn 5 = .ok (.invokevirtual 62, 3) := by decide +kernel
theorem dX12_partOn_8 : decode cX12_partOn 8 = .ok (.iload_n 1, 1) := by decide +kernel
theorem dX12_partOn_9 : decode cX12_partOn 9 = .ok (.if_icmp .eq 9, 3) := by decide +kernel
theorem dX12_partOn_12 : decode cX12_partOn 12 = .ok (.iinc 2 1, 3) := by decide +kernel
theorem dX12_partOn_15 : decode cX12_partOn 15 = .ok (.goto (-13), 3) := by decide +kernel
theorem dX12_partOn_18 : decode cX12_partOn 18 = .ok (.iload_n 2, 1) := by decide +kernel
theorem dX12_partOn_19 : decode cX12_partOn 19 = .ok (.ireturn, 1) := by decide +kernel
theorem dX12_feed_0 : decode cX12_feed 0 = .ok (.aload_n 0, 1) := by decide +kernel
theorem dX12_feed_1 : decode cX12_feed 1 = .ok (.iconst 0, 1) := by decide +kernel
theorem dX12_feed_2 : decode cX12_feed 2 = .ok (.putfield 55, 3) := by decide +kernel
theorem dX12_feed_5 : decode cX12_feed 5 = .ok (.aload_n 0, 1) := by decide +kernel
theorem dX12_feed_6 : decode cX12_feed 6 = .ok (.getfield 66, 3) := by decide +kernel
theorem dX12_feed_9 : decode cX12_feed 9 = .ok (.bipush 20, 2) := by decide +kernel
theorem dX12_feed_11 : decode cX12_feed 11 = .ok (.iadd, 1) := by decide +kernel
theorem dX12_feed_12 : decode cX12_feed 12 = .ok (.sipush 400, 3) := by decide +kernel
theorem dX12_feed_15 : decode cX12_feed 15 = .ok (.if_icmp .le 5, 3) := by decide +kernel
theorem dX12_feed_18 : decode cX12_feed 18 = .ok (.iconst (-1), 1) := by decide +kernel
theorem dX12_feed_19 : decode cX12_feed 19 = .ok (.ireturn, 1) := by decide +kernel
theorem dX12_feed_20 : decode cX12_feed 20 = .ok (.iconst 0, 1) := by decide +kernel
theorem dX12_feed_21 : decode cX12_feed 21 = .ok (.istore 6, 2) := by decide +kernel
theorem dX12_feed_23 : decode cX12_feed 23 = .ok (.iload 6, 2) := by decide +kernel
theorem dX12_feed_25 : decode cX12_feed 25 = .ok (.bipush 20, 2) := by decide +kernel
theorem dX12_feed_27 : decode cX12_feed 27 = .ok (.if_icmp .ge 93, 3) := by decide +kernel
theorem dX12_feed_30 : decode cX12_feed 30 = .ok (.iload 6, 2) := by decide +kernel
theorem dX12_feed_32 : decode cX12_feed 32 = .ok (.iconst 4, 1) := by decide +kernel
theorem dX12_feed_33 : decode cX12_feed 33 = .ok (.if_icmp .ge 7, 3) := by decide +kernel
theorem dX12_feed_36 : decode cX12_feed 36 = .ok (.iload_n 1, 1) := by decide +kernel
theorem dX12_feed_37 : decode cX12_feed 37 = .ok (.goto 39, 3) := by decide +kernel
theorem dX12_feed_40 : decode cX12_feed 40 = .ok (.iload 6, 2) := by decide +kernel
theorem dX12_feed_42 : decode cX12_feed 42 = .ok (.bipush 8, 2) := by decide +kernel
theorem dX12_feed_44 : decode cX12_feed 44 = .ok (.if_icmp .ge 7, 3) := by decide +kernel
theorem dX12_feed_47 : decode cX12_feed 47 = .ok (.iload_n 2, 1) := by decide +kernel
theorem dX12_feed_48 : decode cX12_feed 48 = .ok (.goto 28, 3) := by decide +kernel
theorem dX12_feed_51 : decode cX12_feed 51 = .ok (.iload 6, 2) := by decide +kernel
theorem dX12_feed_53 : decode cX12_feed 53 = .ok (.bipush 12, 2) := by decide +kernel
theorem dX12_feed_55 : decode cX12_feed 55 = .ok (.if_icmp .ge 7, 3) := by decide +kernel
theorem dX12_feed_58 : decode cX12_feed 58 = .ok (.iload_n 3, 1) := by decide +kernel
theorem dX12_feed_59 : decode cX12_feed 59 = .ok (.goto 17, 3) := by decide +kernel
theorem dX12_feed_62 : decode cX12_feed 62 = .ok (.iload 6, 2) := by decide +kernel
theorem dX12_feed_64 : decode cX12_feed 64 = .ok (.bipush 16, 2) := by decide +kernel
theorem dX12_feed_66 : decode cX12_feed 66 = .ok (.if_icmp .ge 8, 3) := by decide +kernel
theorem dX12_feed_69 : decode cX12_feed 69 = .ok (.iload 4, 2) := by decide +kernel
theorem dX12_feed_71 : decode cX12_feed 71 = .ok (.goto 5, 3) := by decide +kernel
theorem dX12_feed_74 : decode cX12_feed 74 = .ok (.iload 5, 2) := by decide +kernel
theorem dX12_feed_76 : decode cX12_feed 76 = .ok (.istore 7, 2) := by decide +kernel
theorem dX12_feed_78 : decode cX12_feed 78 = .ok (.aload_n 0, 1) := by decide +kernel
theorem dX12_feed_79 : decode cX12_feed 79 = .ok (.getfield 25, 3) := by decide +kernel
theorem dX12_feed_82 : decode cX12_feed 82 = .ok (.aload_n 0, 1) := by decide +kernel
theorem dX12_feed_83 : decode cX12_feed 83 = .ok (.getfield 66, 3) := by decide +kernel
theorem dX12_feed_86 : decode cX12_feed 86 = .ok (.iload 7, 2) := by decide +kernel
theorem dX12_feed_88 : decode cX12_feed 88 = .ok (.bipush 24, 2) := by decide +kernel
theorem dX12_feed_90 : decode cX12_feed 90 = .ok (.bipush 8, 2) := by decide +kernel
theorem dX12_feed_92 : decode cX12_feed 92 = .ok (.iload 6, 2) := by decide +kernel
theorem dX12_feed_94 : decode cX12_feed 94 = .ok (.iconst 4, 1) := by decide +kernel
theorem dX12_feed_95 : decode cX12_feed 95 = .ok (.irem, 1) := by decide +kernel
theorem dX12_feed_96 : decode cX12_feed 96 = .ok (.imul, 1) := by decide +kernel
theorem dX12_feed_97 : decode cX12_feed 97 = .ok (.isub, 1) := by decide +kernel
theorem dX12_feed_98 : decode cX12_feed 98 = .ok (.iushr, 1) := by decide +kernel
theorem dX12_feed_99 : decode cX12_feed 99 = .ok (.sipush 255, 3) := by decide +kernel
theorem dX12_feed_102 : decode cX12_feed 102 = .ok (.iand, 1) := by decide +kernel
theorem dX12_feed_103 : decode cX12_feed 103 = .ok (.iastore, 1) := by decide +kernel
theorem dX12_feed_104 : decode cX12_feed 104 = .ok (.aload_n 0, 1) := by decide +kernel
theorem dX12_feed_105 : decode cX12_feed 105 = .ok (.dup, 1) := by decide +kernel
theorem dX12_feed_106 : decode cX12_feed 106 = .ok (.getfield 66, 3) := by decide +kernel
theorem dX12_feed_109 : decode cX12_feed 109 = .ok (.iconst 1, 1) := by decide +kernel
theorem dX12_feed_110 : decode cX12_feed 110 = .ok (.iadd, 1) := by decide +kernel
theorem dX12_feed_111 : decode cX12_feed 111 = .ok (.putfield 66, 3) := by decide +kernel
theorem dX12_feed_114 : decode cX12_feed 114 = .ok (.iinc 6 1, 3) := by decide +kernel
theorem dX12_feed_117 : decode cX12_feed 117 = .ok (.goto (-94), 3) := by decide +kernel
theorem dX12_feed_120 : decode cX12_feed 120 = .ok (.aload_n 0, 1) := by decide +kernel
theorem dX12_feed_121 : decode cX12_feed 121 = .ok (.getfield 66, 3) := by decide +kernel
theorem dX12_feed_124 : decode cX12_feed 124 = .ok (.ireturn, 1) := by decide +kernel
theorem dX12_end_0 : decode cX12_end 0 = .ok (.aload_n 0, 1) := by decide +kernel
theorem dX12_end_1 : decode cX12_end 1 = .ok (.iconst 0, 1) := by decide +kernel
theorem dX12_end_2 : decode cX12_end 2 = .ok (.putfield 55, 3) := by decide +kernel
theorem dX12_end_5 : decode cX12_end 5 = .ok (.iload_n 1, 1) := by decide +kernel
theorem dX12_end_6 : decode cX12_end 6 = .ok (.iconst 0, 1) := by decide +kernel
theorem dX12_end_7 : decode cX12_end 7 = .ok (.aload_n 0, 1) := by decide +kernel
theorem dX12_end_8 : decode cX12_end 8 = .ok (.getfield 66, 3) := by decide +kernel
theorem dX12_end_11 : decode cX12_end 11 = .ok (.invokestatic 58, 3) := by decide +kernel
theorem dX12_end_14 : decode cX12_end 14 = .ok (.ifCond .ne 5, 3) := by decide +kernel
theorem dX12_end_17 : decode cX12_end 17 = .ok (.iconst 0, 1) := by decide +kernel
theorem dX12_end_18 : decode cX12_end 18 = .ok (.ireturn, 1) := by decide +kernel
theorem dX12_end_19 : decode cX12_end 19 = .ok (.aload_n 0, 1) := by decide +kernel
theorem dX12_end_20 : decode cX12_end 20 = .ok (.iload_n 1, 1) := by decide +kernel
theorem dX12_end_21 : decode cX12_end 21 = .ok (.putfield 66, 3) := by decide +kernel
theorem dX12_end_24 : decode cX12_end 24 = .ok (.iconst 1, 1) := by decide +kernel
theorem dX12_end_25 : decode cX12_end 25 = .ok (.ireturn, 1) := by decide +kernel
theorem dX12_letter_0 : decode cX12_letter 0 = .ok (.aload_n 0, 1) := by decide +kernel
theorem dX12_letter_1 : decode cX12_letter 1 = .ok (.getfield 69, 3) := by decide +kernel
theorem dX12_letter_4 : decode cX12_letter 4 = .ok (.iconst (-1), 1) := by decide +kernel
theorem dX12_letter_5 : decode cX12_letter 5 = .ok (.if_icmp .ne 12, 3) := by decide +kernel
theorem dX12_letter_8 : decode cX12_letter 8 = .ok (.aload_n 0, 1) := by decide +kernel
theorem dX12_letter_9 : decode cX12_letter 9 = .ok (.getfield 25, 3) := by decide +kernel
theorem dX12_letter_12 : decode cX12_letter 12 = .ok (.iload_n 1, 1) := by decide +kernel
theorem dX12_letter_13 : decode cX12_letter 13 = .ok (.iaload, 1) := by decide +kernel
theorem dX12_letter_14 : decode cX12_letter 14 = .ok (.goto 14, 3) := by decide +kernel
theorem dX12_letter_17 : decode cX12_letter 17 = .ok (.aload_n 0, 1) := by decide +kernel
theorem dX12_letter_18 : decode cX12_letter 18 = .ok (.getfield 7, 3) := by decide +kernel
theorem dX12_letter_21 : decode cX12_letter 21 = .ok (.aload_n 0, 1) := by decide +kernel
theorem dX12_letter_22 : decode cX12_letter 22 = .ok (.getfield 69, 3) := by decide +kernel
theorem dX12_letter_25 : decode cX12_letter 25 = .ok (.iload_n 1, 1) := by decide +kernel
theorem dX12_letter_26 : decode cX12_letter 26 = .ok (.iadd, 1) := by decide +kernel
theorem dX12_letter_27 : decode cX12_letter 27 = .ok (.iaload, 1) := by decide +kernel
theorem dX12_letter_28 : decode cX12_letter 28 = .ok (.ireturn, 1) := by decide +kernel
theorem dX12_skip_0 : decode cX12_skip 0 = .ok (.aload_n 0, 1) := by decide +kernel
theorem dX12_skip_1 : decode cX12_skip 1 = .ok (.getfield 72, 3) := by decide +kernel
theorem dX12_skip_4 : decode cX12_skip 4 = .ok (.aload_n 0, 1) := by decide +kernel
theorem dX12_skip_5 : decode cX12_skip 5 = .ok (.getfield 75, 3) := by decide +kernel
theorem dX12_skip_8 : decode cX12_skip 8 = .ok (.if_icmp .ge 29, 3) := by decide +kernel
theorem dX12_skip_11 : decode cX12_skip 11 = .ok (.aload_n 0, 1) := by decide +kernel
theorem dX12_skip_12 : decode cX12_skip 12 = .ok (.aload_n 0, 1) := by decide +kernel
theorem dX12_skip_13 : decode cX12_skip 13 = .ok (.getfield 72, 3) := by decide +kernel
theorem dX12_skip_16 : decode cX12_skip 16 = .ok (.invokevirtual 78, 3) := by decide +kernel
theorem dX12_skip_19 : decode cX12_skip 19 = .ok (.bipush 32, 2) := by decide +kernel
theorem dX12_skip_21 : decode cX12_skip 21 = .ok (.if_icmp .ne 16, 3) := by decide +kernel
theorem dX12_skip_24 : decode cX12_skip 24 = .ok (.aload_n 0, 1) := by decide +kernel
theorem dX12_skip_25 : decode cX12_skip 25 = .ok (.dup, 1) := by decide +kernel
theorem dX12_skip_26 : decode cX12_skip 26 = .ok (.getfield 72, 3) := by decide +kernel
theorem dX12_skip_29 : decode cX12_skip 29 = .ok (.iconst 1, 1) := by decide +kernel
theorem dX12_skip_30 : decode cX12_skip 30 = .ok (.iadd, 1) := by decide +kernel
theorem dX12_skip_31 : decode cX12_skip 31 = .ok (.putfield 72, 3) := by decide +kernel
theorem dX12_skip_34 : decode cX12_skip 34 = .ok (.goto (-34), 3) := by decide +kernel
theorem dX12_skip_37 : decode cX12_skip 37 = .ok (.return_, 1) := by decide +kernel
theorem dX12_isSign_0 : decode cX12_isSign 0 = .ok (.aload_n 0, 1) := by decide +kernel
theorem dX12_isSign_1 : decode cX12_isSign 1 = .ok (.invokevirtual 82, 3) := by decide +kernel
theorem dX12_isSign_4 : decode cX12_isSign 4 = .ok (.aload_n 0, 1) := by decide +kernel
theorem dX12_isSign_5 : decode cX12_isSign 5 = .ok (.getfield 72, 3) := by decide +kernel
theorem dX12_isSign_8 : decode cX12_isSign 8 = .ok (.aload_n 0, 1) := by decide +kernel
theorem dX12_isSign_9 : decode cX12_isSign 9 = .ok (.getfield 75, 3) := by decide +kernel
theorem dX12_isSign_12 : decode cX12_isSign 12 = .ok (.if_icmp .ge 19, 3) := by decide +kernel
theorem dX12_isSign_15 : decode cX12_isSign 15 = .ok (.aload_n 0, 1) := by decide +kernel
theorem dX12_isSign_16 : decode cX12_isSign 16 = .ok (.aload_n 0, 1) := by decide +kernel
theorem dX12_isSign_17 : decode cX12_isSign 17 = .ok (.getfield 72, 3) := by decide +kernel
theorem dX12_isSign_20 : decode cX12_isSign 20 = .ok (.invokevirtual 78, 3) := by decide +kernel
theorem dX12_isSign_23 : decode cX12_isSign 23 = .ok (.iload_n 1, 1) := by decide +kernel
theorem dX12_isSign_24 : decode cX12_isSign 24 = .ok (.if_icmp .ne 7, 3) := by decide +kernel
theorem dX12_isSign_27 : decode cX12_isSign 27 = .ok (.iconst 1, 1) := by decide +kernel
theorem dX12_isSign_28 : decode cX12_isSign 28 = .ok (.goto 4, 3) := by decide +kernel
theorem dX12_isSign_31 : decode cX12_isSign 31 = .ok (.iconst 0, 1) := by decide +kernel
theorem dX12_isSign_32 : decode cX12_isSign 32 = .ok (.ireturn, 1) := by decide +kernel
theorem dX12_has__0 : decode cX12_has_ 0 = .ok (.aload_n 0, 1) := by decide +kernel
theorem dX12_has__1 : decode cX12_has_ 1 = .ok (.invokevirtual 82, 3) := by decide +kernel
theorem dX12_has__4 : decode cX12_has_ 4 = .ok (.aload_n 0, 1) := by decide +kernel
theorem dX12_has__5 : decode cX12_has_ 5 = .ok (.getfield 72, 3) := by decide +kernel
theorem dX12_has__8 : decode cX12_has_ 8 = .ok (.istore_n 2, 1) := by decide +kernel
theorem dX12_has__9 : decode cX12_has_ 9 = .ok (.iload_n 2, 1) := by decide +kernel
theorem dX12_has__10 : decode cX12_has_ 10 = .ok (.aload_n 0, 1) := by decide +kernel
theorem dX12_has__11 : decode cX12_has_ 11 = .ok (.getfield 75, 3) := by decide +kernel
theorem dX12_has__14 : decode cX12_has_ 14 = .ok (.if_icmp .ge 24, 3) := by decide +kernel
theorem dX12_has__17 : decode cX12_has_ 17 = .ok (.aload_n 0, 1) := by decide +kernel
theorem dX12_has__18 : decode cX12_has_ 18 = .ok (.iload_n 2, 1) := by decide +kernel
theorem dX12_has__19 : decode cX12_has_ 19 = .ok (.invokevirtual 78, 3) := by decide +kernel
theorem dX12_has__22 : decode cX12_has_ 22 = .ok (.bipush 97, 2) := by decide +kernel
theorem dX12_has__24 : decode cX12_has_ 24 = .ok (.bipush 122, 2) := by decide +kernel
theorem dX12_has__26 : decode cX12_has_ 26 = .ok (.invokestatic 58, 3) := by decide +kernel
theorem dX12_has__29 : decode cX12_has_ 29 = .ok (.ifCond .eq 9, 3) := by decide +kernel
theorem dX12_has__32 : decode cX12_has_ 32 = .ok (.iinc 2 1, 3) := by decide +kernel
theorem dX12_has__35 : decode cX12_has_ 35 = .ok (.goto (-26), 3) := by decide +kernel
theorem dX12_has__38 : decode cX12_has_ 38 = .ok (.iload_n 2, 1) := by decide +kernel
theorem dX12_has__39 : decode cX12_has_ 39 = .ok (.aload_n 0, 1) := by decide +kernel
theorem dX12_has__40 : decode cX12_has_ 40 = .ok (.getfield 72, 3) := by decide +kernel
theorem dX12_has__43 : decode cX12_has_ 43 = .ok (.isub, 1) := by decide +kernel
theorem dX12_has__44 : decode cX12_has_ 44 = .ok (.aload_n 1, 1) := by decide +kernel
theorem dX12_has__45 : decode cX12_has_ 45 = .ok (.invokevirtual 85, 3) := by decide +kernel
theorem dX12_has__48 : decode cX12_has_ 48 = .ok (.if_icmp .eq 5, 3) := by decide +kernel
theorem dX12_has__51 : decode cX12_has_ 51 = .ok (.iconst 0, 1) := by decide +kernel
theorem dX12_has__52 : decode cX12_has_ 52 = .ok (.ireturn, 1) := by decide +kernel
theorem dX12_has__53 : decode cX12_has_ 53 = .ok (.iconst 0, 1) := by decide +kernel
theorem dX12_has__54 : decode cX12_has_ 54 = .ok (.istore_n 3, 1) := by decide +kernel
theorem dX12_has__55 : decode cX12_has_ 55 = .ok (.iload_n 3, 1) := by decide +kernel
theorem dX12_has__56 : decode cX12_has_ 56 = .ok (.aload_n 1, 1) := by decide +kernel
theorem dX12_has__57 : decode cX12_has_ 57 = .ok (.invokevirtual 85, 3) := by decide +kernel
theorem dX12_has__60 : decode cX12_has_ 60 = .ok (.if_icmp .ge 29, 3) := by decide +kernel
theorem dX12_has__63 : decode cX12_has_ 63 = .ok (.aload_n 0, 1) := by decide +kernel
theorem dX12_has__64 : decode cX12_has_ 64 = .ok (.aload_n 0, 1) := by decide +kernel
theorem dX12_has__65 : decode cX12_has_ 65 = .ok (.getfield 72, 3) := by decide +kernel
theorem dX12_has__68 : decode cX12_has_ 68 = .ok (.iload_n 3, 1) := by decide +kernel
theorem dX12_has__69 : decode cX12_has_ 69 = .ok (.iadd, 1) := by decide +kernel
theorem dX12_has__70 : decode cX12_has_ 70 = .ok (.invokevirtual 78, 3) := by decide +kernel
theorem dX12_has__73 : decode cX12_has_ 73 = .ok (.aload_n 1, 1) := by decide +kernel
theorem dX12_has__74 : decode cX12_has_ 74 = .ok (.iload_n 3, 1) := by decide +kernel
theorem dX12_has__75 : decode cX12_has_ 75 = .ok (.invokevirtual 91, 3) := by decide +kernel
theorem dX12_has__78 : decode cX12_has_ 78 = .ok (.if_icmp .eq 5, 3) := by decide +kernel
theorem dX12_has__81 : decode cX12_has_ 81 = .ok (.iconst 0, 1) := by decide +kernel
theorem dX12_has__82 : decode cX12_has_ 82 = .ok (.ireturn, 1) := by decide +kernel
theorem dX12_has__83 : decode cX12_has_ 83 = .ok (.iinc 3 1, 3) := by decide +kernel
theorem dX12_has__86 : decode cX12_has_ 86 = .ok (.goto (-31), 3) := by decide +kernel
theorem dX12_has__89 : decode cX12_has_ 89 = .ok (.aload_n 0, 1) := by decide +kernel
theorem dX12_has__90 : decode cX12_has_ 90 = .ok (.iload_n 2, 1) := by decide +kernel
theorem dX12_has__91 : decode cX12_has_ 91 = .ok (.putfield 72, 3) := by decide +kernel
theorem dX12_has__94 : decode cX12_has_ 94 = .ok (.iconst 1, 1) := by decide +kernel
theorem dX12_has__95 : decode cX12_has_ 95 = .ok (.ireturn, 1) := by decide +kernel
theorem dX12_wrong_0 : decode cX12_wrong 0 = .ok (.aload_n 0, 1) := by decide +kernel
theorem dX12_wrong_1 : decode cX12_wrong 1 = .ok (.getfield 28, 3) := by decide +kernel
theorem dX12_wrong_4 : decode cX12_wrong 4 = .ok (.iconst (-1), 1) := by decide +kernel
theorem dX12_wrong_5 : decode cX12_wrong 5 = .ok (.if_icmp .ne 8, 3) := by decide +kernel
theorem dX12_wrong_8 : decode cX12_wrong 8 = .ok (.aload_n 0, 1) := by decide +kernel
theorem dX12_wrong_9 : decode cX12_wrong 9 = .ok (.iload_n 1, 1) := by decide +kernel
theorem dX12_wrong_10 : decode cX12_wrong 10 = .ok (.putfield 28, 3) := by decide +kernel
theorem dX12_wrong_13 : decode cX12_wrong 13 = .ok (.return_, 1) := by decide +kernel
theorem dX12_place_0 : decode cX12_place 0 = .ok (.aload_n 0, 1) := by decide +kernel
theorem dX12_place_1 : decode cX12_place 1 = .ok (.invokevirtual 82, 3) := by decide +kernel
theorem dX12_place_4 : decode cX12_place 4 = .ok (.aload_n 0, 1) := by decide +kernel
theorem dX12_place_5 : decode cX12_place 5 = .ok (.getfield 72, 3) := by decide +kernel
theorem dX12_place_8 : decode cX12_place 8 = .ok (.ireturn, 1) := by decide +kernel
theorem dX12_figures_0 : decode cX12_figures 0 = .ok (.aload_n 0, 1) := by decide +kernel
theorem dX12_figures_1 : decode cX12_figures 1 = .ok (.getfield 28, 3) := by decide +kernel
theorem dX12_figures_4 : decode cX12_figures 4 = .ok (.iconst (-1), 1) := by decide +kernel
theorem dX12_figures_5 : decode cX12_figures 5 = .ok (.if_icmp .eq 5, 3) := by decide +kernel
theorem dX12_figures_8 : decode cX12_figures 8 = .ok (.iconst 0, 1) := by decide +kernel
theorem dX12_figures_9 : decode cX12_figures 9 = .ok (.ireturn, 1) := by decide +kernel
theorem dX12_figures_10 : decode cX12_figures 10 = .ok (.aload_n 0, 1) := by decide +kernel
theorem dX12_figures_11 : decode cX12_figures 11 = .ok (.invokevirtual 95, 3) := by decide +kernel
theorem dX12_figures_14 : decode cX12_figures 14 = .ok (.istore_n 3, 1) := by decide +kernel
theorem dX12_figures_15 : decode cX12_figures 15 = .ok (.iconst 0, 1) := by decide +kernel
theorem dX12_figures_16 : decode cX12_figures 16 = .ok (.istore 4, 2) := by decide +kernel
theorem dX12_figures_18 : decode cX12_figures 18 = .ok (.aload_n 0, 1) := by decide +kernel
theorem dX12_figures_19 : decode cX12_figures 19 = .ok (.getfield 72, 3) := by decide +kernel
theorem dX12_figures_22 : decode cX12_figures 22 = .ok (.aload_n 0, 1) := by decide +kernel
theorem dX12_figures_23 : decode cX12_figures 23 = .ok (.getfield 75, 3) := by decide +kernel
theorem dX12_figures_26 : decode cX12_figures 26 = .ok (.if_icmp .ge 63, 3) := by decide +kernel
theorem dX12_figures_29 : decode cX12_figures 29 = .ok (.aload_n 0, 1) := by decide +kernel
theorem dX12_figures_30 : decode cX12_figures 30 = .ok (.aload_n 0, 1) := by decide +kernel
theorem dX12_figures_31 : decode cX12_figures 31 = .ok (.getfield 72, 3) := by decide +kernel
theorem dX12_figures_34 : decode cX12_figures 34 = .ok (.invokevirtual 78, 3) := by decide +kernel
theorem dX12_figures_37 : decode cX12_figures 37 = .ok (.bipush 48, 2) := by decide +kernel
theorem dX12_figures_39 : decode cX12_figures 39 = .ok (.bipush 57, 2) := by decide +kernel
theorem dX12_figures_41 : decode cX12_figures 41 = .ok (.invokestatic 58, 3) := by decide +kernel
theorem dX12_figures_44 : decode cX12_figures 44 = .ok (.ifCond .eq 45, 3) := by decide +kernel
theorem dX12_figures_47 : decode cX12_figures 47 = .ok (.aload_n 0, 1) := by decide +kernel
theorem dX12_figures_48 : decode cX12_figures 48 = .ok (.getfield 72, 3) := by decide +kernel
theorem dX12_figures_51 : decode cX12_figures 51 = .ok (.iload_n 3, 1) := by decide +kernel
theorem dX12_figures_52 : decode cX12_figures 52 = .ok (.isub, 1) := by decide +kernel
theorem dX12_figures_53 : decode cX12_figures 53 = .ok (.iconst 3, 1) := by decide +kernel
theorem dX12_figures_54 : decode cX12_figures 54 = .ok (.if_icmp .gt 35, 3) := by decide +kernel
theorem dX12_figures_57 : decode cX12_figures 57 = .ok (.bipush 10, 2) := by decide +kernel
theorem dX12_figures_59 : decode cX12_figures 59 = .ok (.iload 4, 2) := by decide +kernel
theorem dX12_figures_61 : decode cX12_figures 61 = .ok (.imul, 1) := by decide +kernel
theorem dX12_figures_62 : decode cX12_figures 62 = .ok (.aload_n 0, 1) := by decide +kernel
theorem dX12_figures_63 : decode cX12_figures 63 = .ok (.aload_n 0, 1) := by decide +kernel
theorem dX12_figures_64 : decode cX12_figures 64 = .ok (.getfield 72, 3) := by decide +kernel
theorem dX12_figures_67 : decode cX12_figures 67 = .ok (.invokevirtual 78, 3) := by decide +kernel
theorem dX12_figures_70 : decode cX12_figures 70 = .ok (.iadd, 1) := by decide +kernel
theorem dX12_figures_71 : decode cX12_figures 71 = .ok (.bipush 48, 2) := by decide +kernel
theorem dX12_figures_73 : decode cX12_figures 73 = .ok (.isub, 1) := by decide +kernel
theorem dX12_figures_74 : decode cX12_figures 74 = .ok (.istore 4, 2) := by decide +kernel
theorem dX12_figures_76 : decode cX12_figures 76 = .ok (.aload_n 0, 1) := by decide +kernel
theorem dX12_figures_77 : decode cX12_figures 77 = .ok (.dup, 1) := by decide +kernel
theorem dX12_figures_78 : decode cX12_figures 78 = .ok (.getfield 72, 3) := by decide +kernel
theorem dX12_figures_81 : decode cX12_figures 81 = .ok (.iconst 1, 1) := by decide +kernel
theorem dX12_figures_82 : decode cX12_figures 82 = .ok (.iadd, 1) := by decide +kernel
theorem dX12_figures_83 : decode cX12_figures 83 = .ok (.putfield 72, 3) := by decide +kernel
theorem dX12_figures_86 : decode cX12_figures 86 = .ok (.goto (-68), 3) := by decide +kernel
theorem dX12_figures_89 : decode cX12_figures 89 = .ok (.aload_n 0, 1) := by decide +kernel
theorem dX12_figures_90 : decode cX12_figures 90 = .ok (.getfield 72, 3) := by decide +kernel
theorem dX12_figures_93 : decode cX12_figures 93 = .ok (.iload_n 3, 1) := by decide +kernel
theorem dX12_figures_94 : decode cX12_figures 94 = .ok (.if_icmp .eq 25, 3) := by decide +kernel
theorem dX12_figures_97 : decode cX12_figures 97 = .ok (.aload_n 0, 1) := by decide +kernel
theorem dX12_figures_98 : decode cX12_figures 98 = .ok (.getfield 72, 3) := by decide +kernel
theorem dX12_figures_101 : decode cX12_figures 101 = .ok (.iload_n 3, 1) := by decide +kernel
theorem dX12_figures_102 : decode cX12_figures 102 = .ok (.isub, 1) := by decide +kernel
theorem dX12_figures_103 : decode cX12_figures 103 = .ok (.iconst 3, 1) := by decide +kernel
theorem dX12_figures_104 : decode cX12_figures 104 = .ok (.if_icmp .gt 15, 3) := by decide +kernel
theorem dX12_figures_107 : decode cX12_figures 107 = .ok (.iload 4, 2) := by decide +kernel
theorem dX12_figures_109 : decode cX12_figures 109 = .ok (.iload_n 1, 1) := by decide +kernel
theorem dX12_figures_110 : decode cX12_figures 110 = .ok (.if_icmp .lt 9, 3) := by decide +kernel
theorem dX12_figures_113 : decode cX12_figures 113 = .ok (.iload 4, 2) := by decide +kernel
theorem dX12_figures_115 : decode cX12_figures 115 = .ok (.iload_n 2, 1) := by decide +kernel
theorem dX12_figures_116 : decode cX12_figures 116 = .ok (.if_icmp .le 8, 3) := by decide +kernel
theorem dX12_figures_119 : decode cX12_figures 119 = .ok (.aload_n 0, 1) := by decide +kernel
theorem dX12_figures_120 : decode cX12_figures 120 = .ok (.iload_n 3, 1) := by decide +kernel
theorem dX12_figures_121 : decode cX12_figures 121 = .ok (.invokevirtual 98, 3) := by decide +kernel
theorem dX12_figures_124 : decode cX12_figures 124 = .ok (.iload 4, 2) := by decide +kernel
theorem dX12_figures_126 : decode cX12_figures 126 = .ok (.ireturn, 1) := by decide +kernel
theorem dX12_after_0 : decode cX12_after 0 = .ok (.aload_n 0, 1) := by decide +kernel
theorem dX12_after_1 : decode cX12_after 1 = .ok (.getfield 28, 3) := by decide +kernel
theorem dX12_after_4 : decode cX12_after 4 = .ok (.iconst (-1), 1) := by decide +kernel
theorem dX12_after_5 : decode cX12_after 5 = .ok (.if_icmp .ne 19, 3) := by decide +kernel
theorem dX12_after_8 : decode cX12_after 8 = .ok (.aload_n 0, 1) := by decide +kernel
theorem dX12_after_9 : decode cX12_after 9 = .ok (.aload_n 1, 1) := by decide +kernel
theorem dX12_after_10 : decode cX12_after 10 = .ok (.invokevirtual 102, 3) := by decide +kernel
theorem dX12_after_13 : decode cX12_after 13 = .ok (.ifCond .ne 11, 3) := by decide +kernel
theorem dX12_after_16 : decode cX12_after 16 = .ok (.aload_n 0, 1) := by decide +kernel
theorem dX12_after_17 : decode cX12_after 17 = .ok (.aload_n 0, 1) := by decide +kernel
theorem dX12_after_18 : decode cX12_after 18 = .ok (.getfield 72, 3) := by decide +kernel
theorem dX12_after_21 : decode cX12_after 21 = .ok (.invokevirtual 98, 3) := by decide +kernel
theorem dX12_after_24 : decode cX12_after 24 = .ok (.aload_n 0, 1) := by decide +kernel
theorem dX12_after_25 : decode cX12_after 25 = .ok (.iload_n 2, 1) := by decide +kernel
theorem dX12_after_26 : decode cX12_after 26 = .ok (.iload_n 3, 1) := by decide +kernel
theorem dX12_after_27 : decode cX12_after 27 = .ok (.invokevirtual 105, 3) := by decide +kernel
theorem dX12_after_30 : decode cX12_after 30 = .ok (.ireturn, 1) := by decide +kernel
theorem dX12_kinds_0 : decode cX12_kinds 0 = .ok (.aload_n 0, 1) := by decide +kernel
theorem dX12_kinds_1 : decode cX12_kinds 1 = .ok (.getfield 28, 3) := by decide +kernel
theorem dX12_kinds_4 : decode cX12_kinds 4 = .ok (.iconst (-1), 1) := by decide +kernel
theorem dX12_kinds_5 : decode cX12_kinds 5 = .ok (.if_icmp .ne 11, 3) := by decide +kernel
theorem dX12_kinds_8 : decode cX12_kinds 8 = .ok (.aload_n 0, 1) := by decide +kernel
theorem dX12_kinds_9 : decode cX12_kinds 9 = .ok (.aload_n 1, 1) := by decide +kernel
theorem dX12_kinds_10 : decode cX12_kinds 10 = .ok (.invokevirtual 102, 3) := by decide +kernel
theorem dX12_kinds_13 : decode cX12_kinds 13 = .ok (.ifCond .ne 5, 3) := by decide +kernel
theorem dX12_kinds_16 : decode cX12_kinds 16 = .ok (.iconst 0, 1) := by decide +kernel
theorem dX12_kinds_17 : decode cX12_kinds 17 = .ok (.ireturn, 1) := by decide +kernel
theorem dX12_kinds_18 : decode cX12_kinds 18 = .ok (.aload_n 0, 1) := by decide +kernel
theorem dX12_kinds_19 : decode cX12_kinds 19 = .ok (.invokevirtual 95, 3) := by decide +kernel
theorem dX12_kinds_22 : decode cX12_kinds 22 = .ok (.istore_n 2, 1) := by decide +kernel
theorem dX12_kinds_23 : decode cX12_kinds 23 = .ok (.iconst 0, 1) := by decide +kernel
theorem dX12_kinds_24 : decode cX12_kinds 24 = .ok (.istore_n 3, 1) := by decide +kernel
theorem dX12_kinds_25 : decode cX12_kinds 25 = .ok (.iconst 1, 1) := by decide +kernel
theorem dX12_kinds_26 : decode cX12_kinds 26 = .ok (.istore 4, 2) := by decide +kernel
theorem dX12_kinds_28 : decode cX12_kinds 28 = .ok (.aload_n 0, 1) := by decide +kernel
theorem dX12_kinds_29 : decode cX12_kinds 29 = .ok (.getfield 72, 3) := by decide +kernel
theorem dX12_kinds_32 : decode cX12_kinds 32 = .ok (.aload_n 0, 1) := by decide +kernel
theorem dX12_kinds_33 : decode cX12_kinds 33 = .ok (.getfield 75, 3) := by decide +kernel
theorem dX12_kinds_36 : decode cX12_kinds 36 = .ok (.if_icmp .ge 86, 3) := by decide +kernel
theorem dX12_kinds_39 : decode cX12_kinds 39 = .ok (.aload_n 0, 1) := by decide +kernel
theorem dX12_kinds_40 : decode cX12_kinds 40 = .ok (.aload_n 0, 1) := by decide +kernel
theorem dX12_kinds_41 : decode cX12_kinds 41 = .ok (.getfield 72, 3) := by decide +kernel
theorem dX12_kinds_44 : decode cX12_kinds 44 = .ok (.invokevirtual 78, 3) := by decide +kernel
theorem dX12_kinds_47 : decode cX12_kinds 47 = .ok (.bipush 97, 2) := by decide +kernel
theorem dX12_kinds_49 : decode cX12_kinds 49 = .ok (.bipush 122, 2) := by decide +kernel
theorem dX12_kinds_51 : decode cX12_kinds 51 = .ok (.invokestatic 58, 3) := by decide +kernel
theorem dX12_kinds_54 : decode cX12_kinds 54 = .ok (.ifCond .eq 68, 3) := by decide +kernel
theorem dX12_kinds_57 : decode cX12_kinds 57 = .ok (.aload_n 0, 1) := by decide +kernel
theorem dX12_kinds_58 : decode cX12_kinds 58 = .ok (.aload_n 0, 1) := by decide +kernel
theorem dX12_kinds_59 : decode cX12_kinds 59 = .ok (.getfield 72, 3) := by decide +kernel
theorem dX12_kinds_62 : decode cX12_kinds 62 = .ok (.invokevirtual 78, 3) := by decide +kernel
theorem dX12_kinds_65 : decode cX12_kinds 65 = .ok (.bipush 97, 2) := by decide +kernel
theorem dX12_kinds_67 : decode cX12_kinds 67 = .ok (.isub, 1) := by decide +kernel
theorem dX12_kinds_68 : decode cX12_kinds 68 = .ok (.istore 5, 2) := by decide +kernel
theorem dX12_kinds_70 : decode cX12_kinds 70 = .ok (.iload 4, 2) := by decide +kernel
theorem dX12_kinds_72 : decode cX12_kinds 72 = .ok (.ifCond .eq 22, 3) := by decide +kernel
theorem dX12_kinds_75 : decode cX12_kinds 75 = .ok (.iload 5, 2) := by decide +kernel
theorem dX12_kinds_77 : decode cX12_kinds 77 = .ok (.iconst 5, 1) := by decide +kernel
theorem dX12_kinds_78 : decode cX12_kinds 78 = .ok (.if_icmp .ge 16, 3) := by decide +kernel
theorem dX12_kinds_81 : decode cX12_kinds 81 = .ok (.iload_n 3, 1) := by decide +kernel
theorem dX12_kinds_82 : decode cX12_kinds 82 = .ok (.iload 5, 2) := by decide +kernel
theorem dX12_kinds_84 : decode cX12_kinds 84 = .ok (.invokestatic 108, 3) := by decide +kernel
theorem dX12_kinds_87 : decode cX12_kinds 87 = .ok (.ifCond .ne 7, 3) := by decide +kernel
theorem dX12_kinds_90 : decode cX12_kinds 90 = .ok (.iconst 1, 1) := by decide +kernel
theorem dX12_kinds_91 : decode cX12_kinds 91 = .ok (.goto 4, 3) := by decide +kernel
theorem dX12_kinds_94 : decode cX12_kinds 94 = .ok (.iconst 0, 1) := by decide +kernel
theorem dX12_kinds_95 : decode cX12_kinds 95 = .ok (.istore 4, 2) := by decide +kernel
theorem dX12_kinds_97 : decode cX12_kinds 97 = .ok (.iload 4, 2) := by decide +kernel
theorem dX12_kinds_99 : decode cX12_kinds 99 = .ok (.ifCond .eq 10, 3) := by decide +kernel
theorem dX12_kinds_102 : decode cX12_kinds 102 = .ok (.iload_n 3, 1) := by decide +kernel
theorem dX12_kinds_103 : decode cX12_kinds 103 = .ok (.iconst 1, 1) := by decide +kernel
theorem dX12_kinds_104 : decode cX12_kinds 104 = .ok (.iload 5, 2) := by decide +kernel
theorem dX12_kinds_106 : decode cX12_kinds 106 = .ok (.ishl, 1) := by decide +kernel
theorem dX12_kinds_107 : decode cX12_kinds 107 = .ok (.ior, 1) := by decide +kernel
theorem dX12_kinds_108 : decode cX12_kinds 108 = .ok (.istore_n 3, 1) := by decide +kernel
theorem dX12_kinds_109 : decode cX12_kinds 109 = .ok (.aload_n 0, 1) := by decide +kernel
theorem dX12_kinds_110 : decode cX12_kinds 110 = .ok (.dup, 1) := by decide +kernel
theorem dX12_kinds_111 : decode cX12_kinds 111 = .ok (.getfield 72, 3) := by decide +kernel
theorem dX12_kinds_114 : decode cX12_kinds 114 = .ok (.iconst 1, 1) := by decide +kernel
theorem dX12_kinds_115 : decode cX12_kinds 115 = .ok (.iadd, 1) := by decide +kernel
theorem dX12_kinds_116 : decode cX12_kinds 116 = .ok (.putfield 72, 3) := by decide +kernel
theorem dX12_kinds_119 : decode cX12_kinds 119 = .ok (.goto (-91), 3) := by decide +kernel
theorem dX12_kinds_122 : decode cX12_kinds 122 = .ok (.iload 4, 2) := by decide +kernel
theorem dX12_kinds_124 : decode cX12_kinds 124 = .ok (.ifCond .eq 11, 3) := by decide +kernel
theorem dX12_kinds_127 : decode cX12_kinds 127 = .ok (.aload_n 0, 1) := by decide +kernel
theorem dX12_kinds_128 : decode cX12_kinds 128 = .ok (.getfield 72, 3) := by decide +kernel
theorem dX12_kinds_131 : decode cX12_kinds 131 = .ok (.iload_n 2, 1) := by decide +kernel
theorem dX12_kinds_132 : decode cX12_kinds 132 = .ok (.if_icmp .ne 8, 3) := by decide +kernel
theorem dX12_kinds_135 : decode cX12_kinds 135 = .ok (.aload_n 0, 1) := by decide +kernel
theorem dX12_kinds_136 : decode cX12_kinds 136 = .ok (.iload_n 2, 1) := by decide +kernel
theorem dX12_kinds_137 : decode cX12_kinds 137 = .ok (.invokevirtual 98, 3) := by decide +kernel
theorem dX12_kinds_140 : decode cX12_kinds 140 = .ok (.iload_n 3, 1) := by decide +kernel
theorem dX12_kinds_141 : decode cX12_kinds 141 = .ok (.ireturn, 1) := by decide +kernel
theorem dX12_soapLine_0 : decode cX12_soapLine 0 = .ok (.aload_n 0, 1) := by decide +kernel
theorem dX12_soapLine_1 : decode cX12_soapLine 1 = .ok (.getfield 7, 3) := by decide +kernel
theorem dX12_soapLine_4 : decode cX12_soapLine 4 = .ok (.iconst 3, 1) := by decide +kernel
theorem dX12_soapLine_5 : decode cX12_soapLine 5 = .ok (.iaload, 1) := by decide +kernel
theorem dX12_soapLine_6 : decode cX12_soapLine 6 = .ok (.bipush 6, 2) := by decide +kernel
theorem dX12_soapLine_8 : decode cX12_soapLine 8 = .ok (.if_icmp .ne 8, 3) := by decide +kernel
theorem dX12_soapLine_11 : decode cX12_soapLine 11 = .ok (.aload_n 0, 1) := by decide +kernel
theorem dX12_soapLine_12 : decode cX12_soapLine 12 = .ok (.iload_n 1, 1) := by decide +kernel
theorem dX12_soapLine_13 : decode cX12_soapLine 13 = .ok (.invokevirtual 98, 3) := by decide +kernel
theorem dX12_soapLine_16 : decode cX12_soapLine 16 = .ok (.aload_n 0, 1) := by decide +kernel
theorem dX12_soapLine_17 : decode cX12_soapLine 17 = .ok (.iconst 0, 1) := by decide +kernel
theorem dX12_soapLine_18 : decode cX12_soapLine 18 = .ok (.bipush 9, 2) := by decide +kernel
theorem dX12_soapLine_20 : decode cX12_soapLine 20 = .ok (.invokevirtual 105, 3) := by decide +kernel
theorem dX12_soapLine_23 : decode cX12_soapLine 23 = .ok (.istore_n 2, 1) := by decide +kernel
theorem dX12_soapLine_24 : decode cX12_soapLine 24 = .ok (.aload_n 0, 1) := by decide +kernel
theorem dX12_soapLine_25 : decode cX12_soapLine 25 = .ok (.ldc 112, 2) := by decide +kernel
theorem dX12_soapLine_27 : decode cX12_soapLine 27 = .ok (.iconst 1, 1) := by decide +kernel
theorem dX12_soapLine_28 : decode cX12_soapLine 28 = .ok (.bipush 30, 2) := by decide +kernel
theorem dX12_soapLine_30 : decode cX12_soapLine 30 = .ok (.invokevirtual 114, 3) := by decide +kernel
theorem dX12_soapLine_33 : decode cX12_soapLine 33 = .ok (.istore_n 3, 1) := by decide +kernel
theorem dX12_soapLine_34 : decode cX12_soapLine 34 = .ok (.aload_n 0, 1) := by decide +kernel
theorem dX12_soapLine_35 : decode cX12_soapLine 35 = .ok (.ldc 118, 2) := by decide +kernel
theorem dX12_soapLine_37 : decode cX12_soapLine 37 = .ok (.iconst 0, 1) := by decide +kernel
theorem dX12_soapLine_38 : decode cX12_soapLine 38 = .ok (.iconst 3, 1) := by decide +kernel
theorem dX12_soapLine_39 : decode cX12_soapLine 39 = .ok (.invokevirtual 114, 3) := by decide +kernel
theorem dX12_soapLine_42 : decode cX12_soapLine 42 = .ok (.istore 4, 2) := by decide +kernel
theorem dX12_soapLine_44 : decode cX12_soapLine 44 = .ok (.aload_n 0, 1) := by decide +kernel
theorem dX12_soapLine_45 : decode cX12_soapLine 45 = .ok (.ldc 120, 2) := by decide +kernel
theorem dX12_soapLine_47 : decode cX12_soapLine 47 = .ok (.invokevirtual 122, 3) := by decide +kernel
theorem dX12_soapLine_50 : decode cX12_soapLine 50 = .ok (.istore 5, 2) := by decide +kernel
theorem dX12_soapLine_52 : decode cX12_soapLine 52 = .ok (.aload_n 0, 1) := by decide +kernel
theorem dX12_soapLine_53 : decode cX12_soapLine 53 = .ok (.getfield 28, 3) := by decide +kernel
theorem dX12_soapLine_56 : decode cX12_soapLine 56 = .ok (.iconst (-1), 1) := by decide +kernel
theorem dX12_soapLine_57 : decode cX12_soapLine 57 = .ok (.if_icmp .eq 4, 3) := by decide +kernel
theorem dX12_soapLine_60 : decode cX12_soapLine 60 = .ok (.return_, 1) := by decide +kernel
theorem dX12_soapLine_61 : decode cX12_soapLine 61 = .ok (.bipush 70, 2) := by decide +kernel
theorem dX12_soapLine_63 : decode cX12_soapLine 63 = .ok (.iconst 4, 1) := by decide +kernel
theorem dX12_soapLine_64 : decode cX12_soapLine 64 = .ok (.aload_n 0, 1) := by decide +kernel
theorem dX12_soapLine_65 : decode cX12_soapLine 65 = .ok (.getfield 7, 3) := by decide +kernel
theorem dX12_soapLine_68 : decode cX12_soapLine 68 = .ok (.iconst 3, 1) := by decide +kernel
theorem dX12_soapLine_69 : decode cX12_soapLine 69 = .ok (.iaload, 1) := by decide +kernel
theorem dX12_soapLine_70 : decode cX12_soapLine 70 = .ok (.imul, 1) := by decide +kernel
theorem dX12_soapLine_71 : decode cX12_soapLine 71 = .ok (.iadd, 1) := by decide +kernel
theorem dX12_soapLine_72 : decode cX12_soapLine 72 = .ok (.istore 6, 2) := by decide +kernel
theorem dX12_soapLine_74 : decode cX12_soapLine 74 = .ok (.aload_n 0, 1) := by decide +kernel
theorem dX12_soapLine_75 : decode cX12_soapLine 75 = .ok (.getfield 7, 3) := by decide +kernel
theorem dX12_soapLine_78 : decode cX12_soapLine 78 = .ok (.iload 6, 2) := by decide +kernel
theorem dX12_soapLine_80 : decode cX12_soapLine 80 = .ok (.iconst 0, 1) := by decide +kernel
theorem dX12_soapLine_81 : decode cX12_soapLine 81 = .ok (.iadd, 1) := by decide +kernel
theorem dX12_soapLine_82 : decode cX12_soapLine 82 = .ok (.iload_n 2, 1) := by decide +kernel
theorem dX12_soapLine_83 : decode cX12_soapLine 83 = .ok (.iastore, 1) := by decide +kernel
theorem dX12_soapLine_84 : decode cX12_soapLine 84 = .ok (.aload_n 0, 1) := by decide +kernel
theorem dX12_soapLine_85 : decode cX12_soapLine 85 = .ok (.getfield 7, 3) := by decide +kernel
theorem dX12_soapLine_88 : decode cX12_soapLine 88 = .ok (.iload 6, 2) := by decide +kernel
theorem dX12_soapLine_90 : decode cX12_soapLine 90 = .ok (.iconst 1, 1) := by decide +kernel
theorem dX12_soapLine_91 : decode cX12_soapLine 91 = .ok (.iadd, 1) := by decide +kernel
theorem dX12_soapLine_92 : decode cX12_soapLine 92 = .ok (.iload_n 3, 1) := by decide +kernel
theorem dX12_soapLine_93 : decode cX12_soapLine 93 = .ok (.iastore, 1) := by decide +kernel
theorem dX12_soapLine_94 : decode cX12_soapLine 94 = .ok (.aload_n 0, 1) := by decide +kernel
theorem dX12_soapLine_95 : decode cX12_soapLine 95 = .ok (.getfield 7, 3) := by decide +kernel
theorem dX12_soapLine_98 : decode cX12_soapLine 98 = .ok (.iload 6, 2) := by decide +kernel
theorem dX12_soapLine_100 : decode cX12_soapLine 100 = .ok (.iconst 2, 1) := by decide +kernel
theorem dX12_soapLine_101 : decode cX12_soapLine 101 = .ok (.iadd, 1) := by decide +kernel
theorem dX12_soapLine_102 : decode cX12_soapLine 102 = .ok (.iload 4, 2) := by decide +kernel
theorem dX12_soapLine_104 : decode cX12_soapLine 104 = .ok (.iastore, 1) := by decide +kernel
theorem dX12_soapLine_105 : decode cX12_soapLine 105 = .ok (.aload_n 0, 1) := by decide +kernel
theorem dX12_soapLine_106 : decode cX12_soapLine 106 = .ok (.getfield 7, 3) := by decide +kernel
theorem dX12_soapLine_109 : decode cX12_soapLine 109 = .ok (.iload 6, 2) := by decide +kernel
theorem dX12_soapLine_111 : decode cX12_soapLine 111 = .ok (.iconst 3, 1) := by decide +kernel
theorem dX12_soapLine_112 : decode cX12_soapLine 112 = .ok (.iadd, 1) := by decide +kernel
theorem dX12_soapLine_113 : decode cX12_soapLine 113 = .ok (.iload 5, 2) := by decide +kernel
theorem dX12_soapLine_115 : decode cX12_soapLine 115 = .ok (.iastore, 1) := by decide +kernel
theorem dX12_soapLine_116 : decode cX12_soapLine 116 = .ok (.aload_n 0, 1) := by decide +kernel
theorem dX12_soapLine_117 : decode cX12_soapLine 117 = .ok (.getfield 7, 3) := by decide +kernel
theorem dX12_soapLine_120 : decode cX12_soapLine 120 = .ok (.iconst 3, 1) := by decide +kernel
theorem dX12_soapLine_121 : decode cX12_soapLine 121 = .ok (.dup2, 1) := by decide +kernel
theorem dX12_soapLine_122 : decode cX12_soapLine 122 = .ok (.iaload, 1) := by decide +kernel
theorem dX12_soapLine_123 : decode cX12_soapLine 123 = .ok (.iconst 1, 1) := by decide +kernel
theorem dX12_soapLine_124 : decode cX12_soapLine 124 = .ok (.iadd, 1) := by decide +kernel
theorem dX12_soapLine_125 : decode cX12_soapLine 125 = .ok (.iastore, 1) := by decide +kernel
theorem dX12_soapLine_126 : decode cX12_soapLine 126 = .ok (.return_, 1) := by decide +kernel
theorem dX12_partLine_0 : decode cX12_partLine 0 = .ok (.aload_n 0, 1) := by decide +kernel
theorem dX12_partLine_1 : decode cX12_partLine 1 = .ok (.iconst 0, 1) := by decide +kernel
theorem dX12_partLine_2 : decode cX12_partLine 2 = .ok (.bipush 7, 2) := by decide +kernel
theorem dX12_partLine_4 : decode cX12_partLine 4 = .ok (.invokevirtual 105, 3) := by decide +kernel
theorem dX12_partLine_7 : decode cX12_partLine 7 = .ok (.istore_n 1, 1) := by decide +kernel
theorem dX12_partLine_8 : decode cX12_partLine 8 = .ok (.aload_n 0, 1) := by decide +kernel
theorem dX12_partLine_9 : decode cX12_partLine 9 = .ok (.ldc 126, 2) := by decide +kernel
theorem dX12_partLine_11 : decode cX12_partLine 11 = .ok (.iconst 0, 1) := by decide +kernel
theorem dX12_partLine_12 : decode cX12_partLine 12 = .ok (.bipush 9, 2) := by decide +kernel
theorem dX12_partLine_14 : decode cX12_partLine 14 = .ok (.invokevirtual 114, 3) := by decide +kernel
theorem dX12_partLine_17 : decode cX12_partLine 17 = .ok (.istore_n 2, 1) := by decide +kernel
theorem dX12_partLine_18 : decode cX12_partLine 18 = .ok (.aload_n 0, 1) := by decide +kernel
theorem dX12_partLine_19 : decode cX12_partLine 19 = .ok (.ldc 128, 2) := by decide +kernel
theorem dX12_partLine_21 : decode cX12_partLine 21 = .ok (.iconst 0, 1) := by decide +kernel
theorem dX12_partLine_22 : decode cX12_partLine 22 = .ok (.bipush 9, 2) := by decide +kernel
theorem dX12_partLine_24 : decode cX12_partLine 24 = .ok (.invokevirtual 114, 3) := by decide +kernel
theorem dX12_partLine_27 : decode cX12_partLine 27 = .ok (.istore_n 3, 1) := by decide +kernel
theorem dX12_partLine_28 : decode cX12_partLine 28 = .ok (.aload_n 0, 1) := by decide +kernel
theorem dX12_partLine_29 : decode cX12_partLine 29 = .ok (.ldc 130, 2) := by decide +kernel
theorem dX12_partLine_31 : decode cX12_partLine 31 = .ok (.invokevirtual 122, 3) := by decide +kernel
theorem dX12_partLine_34 : decode cX12_partLine 34 = .ok (.istore 4, 2) := by decide +kernel
theorem dX12_partLine_36 : decode cX12_partLine 36 = .ok (.aload_n 0, 1) := by decide +kernel
theorem dX12_partLine_37 : decode cX12_partLine 37 = .ok (.getfield 28, 3) := by decide +kernel
theorem dX12_partLine_40 : decode cX12_partLine 40 = .ok (.iconst (-1), 1) := by decide +kernel
theorem dX12_partLine_41 : decode cX12_partLine 41 = .ok (.if_icmp .eq 4, 3) := by decide +kernel
theorem dX12_partLine_44 : decode cX12_partLine 44 = .ok (.return_, 1) := by decide +kernel
theorem dX12_partLine_45 : decode cX12_partLine 45 = .ok (.aload_n 0, 1) := by decide +kernel
theorem dX12_partLine_46 : decode cX12_partLine 46 = .ok (.iload_n 1, 1) := by decide +kernel
theorem dX12_partLine_47 : decode cX12_partLine 47 = .ok (.iconst 0, 1) := by decide +kernel
theorem dX12_partLine_48 : decode cX12_partLine 48 = .ok (.iload_n 2, 1) := by decide +kernel
theorem dX12_partLine_49 : decode cX12_partLine 49 = .ok (.invokevirtual 51, 3) := by decide +kernel
theorem dX12_partLine_52 : decode cX12_partLine 52 = .ok (.aload_n 0, 1) := by decide +kernel
theorem dX12_partLine_53 : decode cX12_partLine 53 = .ok (.iload_n 1, 1) := by decide +kernel
theorem dX12_partLine_54 : decode cX12_partLine 54 = .ok (.iconst 1, 1) := by decide +kernel
theorem dX12_partLine_55 : decode cX12_partLine 55 = .ok (.iload_n 3, 1) := by decide +kernel
theorem dX12_partLine_56 : decode cX12_partLine 56 = .ok (.invokevirtual 51, 3) := by decide +kernel
theorem dX12_partLine_59 : decode cX12_partLine 59 = .ok (.aload_n 0, 1) := by decide +kernel
theorem dX12_partLine_60 : decode cX12_partLine 60 = .ok (.iload_n 1, 1) := by decide +kernel
theorem dX12_partLine_61 : decode cX12_partLine 61 = .ok (.iconst 3, 1) := by decide +kernel
theorem dX12_partLine_62 : decode cX12_partLine 62 = .ok (.iload 4, 2) := by decide +kernel
theorem dX12_partLine_64 : decode cX12_partLine 64 = .ok (.invokevirtual 51, 3) := by decide +kernel
theorem dX12_partLine_67 : decode cX12_partLine 67 = .ok (.return_, 1) := by decide +kernel
theorem dX12_dueLine_0 : decode cX12_dueLine 0 = .ok (.aload_n 0, 1) := by decide +kernel
theorem dX12_dueLine_1 : decode cX12_dueLine 1 = .ok (.getfield 7, 3) := by decide +kernel
theorem dX12_dueLine_4 : decode cX12_dueLine 4 = .ok (.iconst 4, 1) := by decide +kernel
theorem dX12_dueLine_5 : decode cX12_dueLine 5 = .ok (.iaload, 1) := by decide +kernel
theorem dX12_dueLine_6 : decode cX12_dueLine 6 = .ok (.bipush 8, 2) := by decide +kernel
theorem dX12_dueLine_8 : decode cX12_dueLine 8 = .ok (.if_icmp .ne 8, 3) := by decide +kernel
theorem dX12_dueLine_11 : decode cX12_dueLine 11 = .ok (.aload_n 0, 1) := by decide +kernel
theorem dX12_dueLine_12 : decode cX12_dueLine 12 = .ok (.iload_n 1, 1) := by decide +kernel
theorem dX12_dueLine_13 : decode cX12_dueLine 13 = .ok (.invokevirtual 98, 3) := by decide +kernel
theorem dX12_dueLine_16 : decode cX12_dueLine 16 = .ok (.aload_n 0, 1) := by decide +kernel
theorem dX12_dueLine_17 : decode cX12_dueLine 17 = .ok (.iconst 0, 1) := by decide +kernel
theorem dX12_dueLine_18 : decode cX12_dueLine 18 = .ok (.sipush 999, 3) := by decide +kernel
theorem dX12_dueLine_21 : decode cX12_dueLine 21 = .ok (.invokevirtual 105, 3) := by decide +kernel
theorem dX12_dueLine_24 : decode cX12_dueLine 24 = .ok (.istore_n 2, 1) := by decide +kernel
theorem dX12_dueLine_25 : decode cX12_dueLine 25 = .ok (.aload_n 0, 1) := by decide +kernel
theorem dX12_dueLine_26 : decode cX12_dueLine 26 = .ok (.ldc 132, 2) := by decide +kernel
theorem dX12_dueLine_28 : decode cX12_dueLine 28 = .ok (.iconst 1, 1) := by decide +kernel
theorem dX12_dueLine_29 : decode cX12_dueLine 29 = .ok (.bipush 99, 2) := by decide +kernel
theorem dX12_dueLine_31 : decode cX12_dueLine 31 = .ok (.invokevirtual 114, 3) := by decide +kernel
theorem dX12_dueLine_34 : decode cX12_dueLine 34 = .ok (.istore_n 3, 1) := by decide +kernel
theorem dX12_dueLine_35 : decode cX12_dueLine 35 = .ok (.aload_n 0, 1) := by decide +kernel
theorem dX12_dueLine_36 : decode cX12_dueLine 36 = .ok (.getfield 28, 3) := by decide +kernel
theorem dX12_dueLine_39 : decode cX12_dueLine 39 = .ok (.iconst (-1), 1) := by decide +kernel
theorem dX12_dueLine_40 : decode cX12_dueLine 40 = .ok (.if_icmp .eq 4, 3) := by decide +kernel
theorem dX12_dueLine_43 : decode cX12_dueLine 43 = .ok (.return_, 1) := by decide +kernel
theorem dX12_dueLine_44 : decode cX12_dueLine 44 = .ok (.aload_n 0, 1) := by decide +kernel
theorem dX12_dueLine_45 : decode cX12_dueLine 45 = .ok (.getfield 7, 3) := by decide +kernel
theorem dX12_dueLine_48 : decode cX12_dueLine 48 = .ok (.bipush 94, 2) := by decide +kernel
theorem dX12_dueLine_50 : decode cX12_dueLine 50 = .ok (.iconst 2, 1) := by decide +kernel
theorem dX12_dueLine_51 : decode cX12_dueLine 51 = .ok (.aload_n 0, 1) := by decide +kernel
theorem dX12_dueLine_52 : decode cX12_dueLine 52 = .ok (.getfield 7, 3) := by decide +kernel
theorem dX12_dueLine_55 : decode cX12_dueLine 55 = .ok (.iconst 4, 1) := by decide +kernel
theorem dX12_dueLine_56 : decode cX12_dueLine 56 = .ok (.iaload, 1) := by decide +kernel
theorem dX12_dueLine_57 : decode cX12_dueLine 57 = .ok (.imul, 1) := by decide +kernel
theorem dX12_dueLine_58 : decode cX12_dueLine 58 = .ok (.iadd, 1) := by decide +kernel
theorem dX12_dueLine_59 : decode cX12_dueLine 59 = .ok (.iload_n 2, 1) := by decide +kernel
theorem dX12_dueLine_60 : decode cX12_dueLine 60 = .ok (.iastore, 1) := by decide +kernel
theorem dX12_dueLine_61 : decode cX12_dueLine 61 = .ok (.aload_n 0, 1) := by decide +kernel
theorem dX12_dueLine_62 : decode cX12_dueLine 62 = .ok (.getfield 7, 3) := by decide +kernel
theorem dX12_dueLine_65 : decode cX12_dueLine 65 = .ok (.bipush 94, 2) := by decide +kernel
theorem dX12_dueLine_67 : decode cX12_dueLine 67 = .ok (.iconst 2, 1) := by decide +kernel
theorem dX12_dueLine_68 : decode cX12_dueLine 68 = .ok (.aload_n 0, 1) := by decide +kernel
theorem dX12_dueLine_69 : decode cX12_dueLine 69 = .ok (.getfield 7, 3) := by decide +kernel
theorem dX12_dueLine_72 : decode cX12_dueLine 72 = .ok (.iconst 4, 1) := by decide +kernel
theorem dX12_dueLine_73 : decode cX12_dueLine 73 = .ok (.iaload, 1) := by decide +kernel
theorem dX12_dueLine_74 : decode cX12_dueLine 74 = .ok (.imul, 1) := by decide +kernel
theorem dX12_dueLine_75 : decode cX12_dueLine 75 = .ok (.iadd, 1) := by decide +kernel
theorem dX12_dueLine_76 : decode cX12_dueLine 76 = .ok (.iconst 1, 1) := by decide +kernel
theorem dX12_dueLine_77 : decode cX12_dueLine 77 = .ok (.iadd, 1) := by decide +kernel
theorem dX12_dueLine_78 : decode cX12_dueLine 78 = .ok (.iload_n 3, 1) := by decide +kernel
theorem dX12_dueLine_79 : decode cX12_dueLine 79 = .ok (.iastore, 1) := by decide +kernel
theorem dX12_dueLine_80 : decode cX12_dueLine 80 = .ok (.aload_n 0, 1) := by decide +kernel
theorem dX12_dueLine_81 : decode cX12_dueLine 81 = .ok (.getfield 7, 3) := by decide +kernel
theorem dX12_dueLine_84 : decode cX12_dueLine 84 = .ok (.iconst 4, 1) := by decide +kernel
theorem dX12_dueLine_85 : decode cX12_dueLine 85 = .ok (.dup2, 1) := by decide +kernel
theorem dX12_dueLine_86 : decode cX12_dueLine 86 = .ok (.iaload, 1) := by decide +kernel
theorem dX12_dueLine_87 : decode cX12_dueLine 87 = .ok (.iconst 1, 1) := by decide +kernel
theorem dX12_dueLine_88 : decode cX12_dueLine 88 = .ok (.iadd, 1) := by decide +kernel
theorem dX12_dueLine_89 : decode cX12_dueLine 89 = .ok (.iastore, 1) := by decide +kernel
theorem dX12_dueLine_90 : decode cX12_dueLine 90 = .ok (.return_, 1) := by decide +kernel
theorem dX12_tells_0 : decode cX12_tells 0 = .ok (.aload_n 0, 1) := by decide +kernel
theorem dX12_tells_1 : decode cX12_tells 1 = .ok (.iconst 0, 1) := by decide +kernel
theorem dX12_tells_2 : decode cX12_tells 2 = .ok (.iload_n 2, 1) := by decide +kernel
theorem dX12_tells_3 : decode cX12_tells 3 = .ok (.invokevirtual 105, 3) := by decide +kernel
theorem dX12_tells_6 : decode cX12_tells 6 = .ok (.istore_n 3, 1) := by decide +kernel
theorem dX12_tells_7 : decode cX12_tells 7 = .ok (.aload_n 0, 1) := by decide +kernel
theorem dX12_tells_8 : decode cX12_tells 8 = .ok (.getfield 28, 3) := by decide +kernel
theorem dX12_tells_11 : decode cX12_tells 11 = .ok (.iconst (-1), 1) := by decide +kernel
theorem dX12_tells_12 : decode cX12_tells 12 = .ok (.if_icmp .ne 10, 3) := by decide +kernel
theorem dX12_tells_15 : decode cX12_tells 15 = .ok (.aload_n 0, 1) := by decide +kernel
theorem dX12_tells_16 : decode cX12_tells 16 = .ok (.getfield 7, 3) := by decide +kernel
theorem dX12_tells_19 : decode cX12_tells 19 = .ok (.iload_n 1, 1) := by decide +kernel
theorem dX12_tells_20 : decode cX12_tells 20 = .ok (.iload_n 3, 1) := by decide +kernel
theorem dX12_tells_21 : decode cX12_tells 21 = .ok (.iastore, 1) := by decide +kernel
theorem dX12_tells_22 : decode cX12_tells 22 = .ok (.return_, 1) := by decide +kernel
theorem dX12_houseLine_0 : decode cX12_houseLine 0 = .ok (.aload_n 0, 1) := by decide +kernel
theorem dX12_houseLine_1 : decode cX12_houseLine 1 = .ok (.invokevirtual 95, 3) := by decide +kernel
theorem dX12_houseLine_4 : decode cX12_houseLine 4 = .ok (.istore_n 1, 1) := by decide +kernel
theorem dX12_houseLine_5 : decode cX12_houseLine 5 = .ok (.aload_n 0, 1) := by decide +kernel
theorem dX12_houseLine_6 : decode cX12_houseLine 6 = .ok (.ldc 134, 2) := by decide +kernel
theorem dX12_houseLine_8 : decode cX12_houseLine 8 = .ok (.invokevirtual 102, 3) := by decide +kernel
theorem dX12_houseLine_11 : decode cX12_houseLine 11 = .ok (.ifCond .eq 11, 3) := by decide +kernel
theorem dX12_houseLine_14 : decode cX12_houseLine 14 = .ok (.aload_n 0, 1) := by decide +kernel
theorem dX12_houseLine_15 : decode cX12_houseLine 15 = .ok (.iload_n 1, 1) := by decide +kernel
theorem dX12_houseLine_16 : decode cX12_houseLine 16 = .ok (.invokevirtual 136, 3) := by decide +kernel
theorem dX12_houseLine_19 : decode cX12_houseLine 19 = .ok (.goto 153, 3) := by decide +kernel
theorem dX12_houseLine_22 : decode cX12_houseLine 22 = .ok (.aload_n 0, 1) := by decide +kernel
theorem dX12_houseLine_23 : decode cX12_houseLine 23 = .ok (.ldc 139, 2) := by decide +kernel
theorem dX12_houseLine_25 : decode cX12_houseLine 25 = .ok (.invokevirtual 102, 3) := by decide +kernel
theorem dX12_houseLine_28 : decode cX12_houseLine 28 = .ok (.ifCond .eq 10, 3) := by decide +kernel
theorem dX12_houseLine_31 : decode cX12_houseLine 31 = .ok (.aload_n 0, 1) := by decide +kernel
theorem dX12_houseLine_32 : decode cX12_houseLine 32 = .ok (.invokevirtual 141, 3) := by decide +kernel
theorem dX12_houseLine_35 : decode cX12_houseLine 35 = .ok (.goto 137, 3) := by decide +kernel
theorem dX12_houseLine_38 : decode cX12_houseLine 38 = .ok (.aload_n 0, 1) := by decide +kernel
theorem dX12_houseLine_39 : decode cX12_houseLine 39 = .ok (.ldc 144, 2) := by decide +kernel
theorem dX12_houseLine_41 : decode cX12_houseLine 41 = .ok (.invokevirtual 102, 3) := by decide +kernel
theorem dX12_houseLine_44 : decode cX12_houseLine 44 = .ok (.ifCond .eq 24, 3) := by decide +kernel
theorem dX12_houseLine_47 : decode cX12_houseLine 47 = .ok (.aload_n 0, 1) := by decide +kernel
theorem dX12_houseLine_48 : decode cX12_houseLine 48 = .ok (.iconst 0, 1) := by decide +kernel
theorem dX12_houseLine_49 : decode cX12_houseLine 49 = .ok (.bipush 7, 2) := by decide +kernel
theorem dX12_houseLine_51 : decode cX12_houseLine 51 = .ok (.invokevirtual 105, 3) := by decide +kernel
theorem dX12_houseLine_54 : decode cX12_houseLine 54 = .ok (.istore_n 2, 1) := by decide +kernel
theorem dX12_houseLine_55 : decode cX12_houseLine 55 = .ok (.aload_n 0, 1) := by decide +kernel
theorem dX12_houseLine_56 : decode cX12_houseLine 56 = .ok (.bipush 62, 2) := by decide +kernel
theorem dX12_houseLine_58 : decode cX12_houseLine 58 = .ok (.iload_n 2, 1) := by decide +kernel
theorem dX12_houseLine_59 : decode cX12_houseLine 59 = .ok (.iadd, 1) := by decide +kernel
theorem dX12_houseLine_60 : decode cX12_houseLine 60 = .ok (.bipush 9, 2) := by decide +kernel
theorem dX12_houseLine_62 : decode cX12_houseLine 62 = .ok (.invokevirtual 146, 3) := by decide +kernel
theorem dX12_houseLine_65 : decode cX12_houseLine 65 = .ok (.goto 107, 3) := by decide +kernel
theorem dX12_houseLine_68 : decode cX12_houseLine 68 = .ok (.aload_n 0, 1) := by decide +kernel
theorem dX12_houseLine_69 : decode cX12_houseLine 69 = .ok (.ldc 150, 2) := by decide +kernel
theorem dX12_houseLine_71 : decode cX12_houseLine 71 = .ok (.invokevirtual 102, 3) := by decide +kernel
theorem dX12_houseLine_74 : decode cX12_houseLine 74 = .ok (.ifCond .eq 11, 3) := by decide +kernel
theorem dX12_houseLine_77 : decode cX12_houseLine 77 = .ok (.aload_n 0, 1) := by decide +kernel
theorem dX12_houseLine_78 : decode cX12_houseLine 78 = .ok (.iload_n 1, 1) := by decide +kernel
theorem dX12_houseLine_79 : decode cX12_houseLine 79 = .ok (.invokevirtual 152, 3) := by decide +kernel
theorem dX12_houseLine_82 : decode cX12_houseLine 82 = .ok (.goto 90, 3) := by decide +kernel
theorem dX12_houseLine_85 : decode cX12_houseLine 85 = .ok (.aload_n 0, 1) := by decide +kernel
theorem dX12_houseLine_86 : decode cX12_houseLine 86 = .ok (.ldc 155, 2) := by decide +kernel
theorem dX12_houseLine_88 : decode cX12_houseLine 88 = .ok (.invokevirtual 102, 3) := by decide +kernel
theorem dX12_houseLine_91 : decode cX12_houseLine 91 = .ok (.ifCond .eq 14, 3) := by decide +kernel
theorem dX12_houseLine_94 : decode cX12_houseLine 94 = .ok (.aload_n 0, 1) := by decide +kernel
theorem dX12_houseLine_95 : decode cX12_houseLine 95 = .ok (.bipush 6, 2) := by decide +kernel
theorem dX12_houseLine_97 : decode cX12_houseLine 97 = .ok (.bipush 20, 2) := by decide +kernel
theorem dX12_houseLine_99 : decode cX12_houseLine 99 = .ok (.invokevirtual 146, 3) := by decide +kernel
theorem dX12_houseLine_102 : decode cX12_houseLine 102 = .ok (.goto 70, 3) := by decide +kernel
theorem dX12_houseLine_105 : decode cX12_houseLine 105 = .ok (.aload_n 0, 1) := by decide +kernel
theorem dX12_houseLine_106 : decode cX12_houseLine 106 = .ok (.ldc 112, 2) := by decide +kernel
theorem dX12_houseLine_108 : decode cX12_houseLine 108 = .ok (.invokevirtual 102, 3) := by decide +kernel
theorem dX12_houseLine_111 : decode cX12_houseLine 111 = .ok (.ifCond .eq 13, 3) := by decide +kernel
theorem dX12_houseLine_114 : decode cX12_houseLine 114 = .ok (.aload_n 0, 1) := by decide +kernel
theorem dX12_houseLine_115 : decode cX12_houseLine 115 = .ok (.iconst 5, 1) := by decide +kernel
theorem dX12_houseLine_116 : decode cX12_houseLine 116 = .ok (.bipush 99, 2) := by decide +kernel
theorem dX12_houseLine_118 : decode cX12_houseLine 118 = .ok (.invokevirtual 146, 3) := by decide +kernel
theorem dX12_houseLine_121 : decode cX12_houseLine 121 = .ok (.goto 51, 3) := by decide +kernel
theorem dX12_houseLine_124 : decode cX12_houseLine 124 = .ok (.aload_n 0, 1) := by decide +kernel
theorem dX12_houseLine_125 : decode cX12_houseLine 125 = .ok (.ldc 157, 2) := by decide +kernel
theorem dX12_houseLine_127 : decode cX12_houseLine 127 = .ok (.invokevirtual 102, 3) := by decide +kernel
theorem dX12_houseLine_130 : decode cX12_houseLine 130 = .ok (.ifCond .eq 14, 3) := by decide +kernel
theorem dX12_houseLine_133 : decode cX12_houseLine 133 = .ok (.aload_n 0, 1) := by decide +kernel
theorem dX12_houseLine_134 : decode cX12_houseLine 134 = .ok (.bipush 7, 2) := by decide +kernel
theorem dX12_houseLine_136 : decode cX12_houseLine 136 = .ok (.bipush 100, 2) := by decide +kernel
theorem dX12_houseLine_138 : decode cX12_houseLine 138 = .ok (.invokevirtual 146, 3) := by decide +kernel
theorem dX12_houseLine_141 : decode cX12_houseLine 141 = .ok (.goto 31, 3) := by decide +kernel
theorem dX12_houseLine_144 : decode cX12_houseLine 144 = .ok (.aload_n 0, 1) := by decide +kernel
theorem dX12_houseLine_145 : decode cX12_houseLine 145 = .ok (.ldc 159, 2) := by decide +kernel
theorem dX12_houseLine_147 : decode cX12_houseLine 147 = .ok (.invokevirtual 102, 3) := by decide +kernel
theorem dX12_houseLine_150 : decode cX12_houseLine 150 = .ok (.ifCond .eq 14, 3) := by decide +kernel
theorem dX12_houseLine_153 : decode cX12_houseLine 153 = .ok (.aload_n 0, 1) := by decide +kernel
theorem dX12_houseLine_154 : decode cX12_houseLine 154 = .ok (.bipush 8, 2) := by decide +kernel
theorem dX12_houseLine_156 : decode cX12_houseLine 156 = .ok (.bipush 100, 2) := by decide +kernel
theorem dX12_houseLine_158 : decode cX12_houseLine 158 = .ok (.invokevirtual 146, 3) := by decide +kernel
theorem dX12_houseLine_161 : decode cX12_houseLine 161 = .ok (.goto 11, 3) := by decide +kernel
theorem dX12_houseLine_164 : decode cX12_houseLine 164 = .ok (.aload_n 0, 1) := by decide +kernel
theorem dX12_houseLine_165 : decode cX12_houseLine 165 = .ok (.aload_n 0, 1) := by decide +kernel
theorem dX12_houseLine_166 : decode cX12_houseLine 166 = .ok (.getfield 72, 3) := by decide +kernel
theorem dX12_houseLine_169 : decode cX12_houseLine 169 = .ok (.invokevirtual 98, 3) := by decide +kernel
theorem dX12_houseLine_172 : decode cX12_houseLine 172 = .ok (.return_, 1) := by decide +kernel
theorem dX12_begins_0 : decode cX12_begins 0 = .ok (.aload_n 0, 1) := by decide +kernel
theorem dX12_begins_1 : decode cX12_begins 1 = .ok (.iconst (-1), 1) := by decide +kernel
theorem dX12_begins_2 : decode cX12_begins 2 = .ok (.putfield 28, 3) := by decide +kernel
theorem dX12_begins_5 : decode cX12_begins 5 = .ok (.aload_n 0, 1) := by decide +kernel
theorem dX12_begins_6 : decode cX12_begins 6 = .ok (.iconst (-1), 1) := by decide +kernel
theorem dX12_begins_7 : decode cX12_begins 7 = .ok (.putfield 69, 3) := by decide +kernel
theorem dX12_begins_10 : decode cX12_begins 10 = .ok (.aload_n 0, 1) := by decide +kernel
theorem dX12_begins_11 : decode cX12_begins 11 = .ok (.aload_n 0, 1) := by decide +kernel
theorem dX12_begins_12 : decode cX12_begins 12 = .ok (.getfield 66, 3) := by decide +kernel
theorem dX12_begins_15 : decode cX12_begins 15 = .ok (.putfield 75, 3) := by decide +kernel
theorem dX12_begins_18 : decode cX12_begins 18 = .ok (.aload_n 0, 1) := by decide +kernel
theorem dX12_begins_19 : decode cX12_begins 19 = .ok (.iconst 0, 1) := by decide +kernel
theorem dX12_begins_20 : decode cX12_begins 20 = .ok (.putfield 66, 3) := by decide +kernel
theorem dX12_begins_23 : decode cX12_begins 23 = .ok (.aload_n 0, 1) := by decide +kernel
theorem dX12_begins_24 : decode cX12_begins 24 = .ok (.iconst 0, 1) := by decide +kernel
theorem dX12_begins_25 : decode cX12_begins 25 = .ok (.putfield 72, 3) := by decide +kernel
theorem dX12_begins_28 : decode cX12_begins 28 = .ok (.aload_n 0, 1) := by decide +kernel
theorem dX12_begins_29 : decode cX12_begins 29 = .ok (.iconst 0, 1) := by decide +kernel
theorem dX12_begins_30 : decode cX12_begins 30 = .ok (.putfield 161, 3) := by decide +kernel
theorem dX12_begins_33 : decode cX12_begins 33 = .ok (.return_, 1) := by decide +kernel
theorem dX12_read_0 : decode cX12_read 0 = .ok (.aload_n 0, 1) := by decide +kernel
theorem dX12_read_1 : decode cX12_read 1 = .ok (.invokevirtual 82, 3) := by decide +kernel
theorem dX12_read_4 : decode cX12_read 4 = .ok (.aload_n 0, 1) := by decide +kernel
theorem dX12_read_5 : decode cX12_read 5 = .ok (.getfield 72, 3) := by decide +kernel
theorem dX12_read_8 : decode cX12_read 8 = .ok (.aload_n 0, 1) := by decide +kernel
theorem dX12_read_9 : decode cX12_read 9 = .ok (.getfield 75, 3) := by decide +kernel
theorem dX12_read_12 : decode cX12_read 12 = .ok (.if_icmp .ge 7, 3) := by decide +kernel
theorem dX12_read_15 : decode cX12_read 15 = .ok (.iconst 1, 1) := by decide +kernel
theorem dX12_read_16 : decode cX12_read 16 = .ok (.goto 4, 3) := by decide +kernel
theorem dX12_read_19 : decode cX12_read 19 = .ok (.iconst 0, 1) := by decide +kernel
theorem dX12_read_20 : decode cX12_read 20 = .ok (.istore_n 2, 1) := by decide +kernel
theorem dX12_read_21 : decode cX12_read 21 = .ok (.iconst 0, 1) := by decide +kernel
theorem dX12_read_22 : decode cX12_read 22 = .ok (.istore_n 3, 1) := by decide +kernel
theorem dX12_read_23 : decode cX12_read 23 = .ok (.iload_n 2, 1) := by decide +kernel
theorem dX12_read_24 : decode cX12_read 24 = .ok (.ifCond .eq 120, 3) := by decide +kernel
theorem dX12_read_27 : decode cX12_read 27 = .ok (.aload_n 0, 1) := by decide +kernel
theorem dX12_read_28 : decode cX12_read 28 = .ok (.getfield 28, 3) := by decide +kernel
theorem dX12_read_31 : decode cX12_read 31 = .ok (.iconst (-1), 1) := by decide +kernel
theorem dX12_read_32 : decode cX12_read 32 = .ok (.if_icmp .ne 112, 3) := by decide +kernel
theorem dX12_read_35 : decode cX12_read 35 = .ok (.aload_n 0, 1) := by decide +kernel
theorem dX12_read_36 : decode cX12_read 36 = .ok (.invokevirtual 82, 3) := by decide +kernel
theorem dX12_read_39 : decode cX12_read 39 = .ok (.iload_n 3, 1) := by decide +kernel
theorem dX12_read_40 : decode cX12_read 40 = .ok (.iload_n 1, 1) := by decide +kernel
theorem dX12_read_41 : decode cX12_read 41 = .ok (.ifCond .eq 8, 3) := by decide +kernel
theorem dX12_read_44 : decode cX12_read 44 = .ok (.bipush 12, 2) := by decide +kernel
theorem dX12_read_46 : decode cX12_read 46 = .ok (.goto 5, 3) := by decide +kernel
theorem dX12_read_49 : decode cX12_read 49 = .ok (.bipush 14, 2) := by decide +kernel
theorem dX12_read_51 : decode cX12_read 51 = .ok (.if_icmp .ne 14, 3) := by decide +kernel
theorem dX12_read_54 : decode cX12_read 54 = .ok (.aload_n 0, 1) := by decide +kernel
