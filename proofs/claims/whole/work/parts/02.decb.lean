theorem dX10_init_0 : decode cX10_init 0 = .ok (.aload_n 0, 1) := by decide +kernel
theorem dX10_init_1 : decode cX10_init 1 = .ok (.invokespecial 1, 3) := by decide +kernel
theorem dX10_init_4 : decode cX10_init 4 = .ok (.aload_n 0, 1) := by decide +kernel
theorem dX10_init_5 : decode cX10_init 5 = .ok (.sipush 2212, 3) := by decide +kernel
theorem dX10_init_8 : decode cX10_init 8 = .ok (.newarray .int, 2) := by decide +kernel
theorem dX10_init_10 : decode cX10_init 10 = .ok (.putfield 7, 3) := by decide +kernel
theorem dX10_init_13 : decode cX10_init 13 = .ok (.aload_n 0, 1) := by decide +kernel
theorem dX10_init_14 : decode cX10_init 14 = .ok (.sipush 2212, 3) := by decide +kernel
theorem dX10_init_17 : decode cX10_init 17 = .ok (.newarray .int, 2) := by decide +kernel
theorem dX10_init_19 : decode cX10_init 19 = .ok (.putfield 13, 3) := by decide +kernel
theorem dX10_init_22 : decode cX10_init 22 = .ok (.aload_n 0, 1) := by decide +kernel
theorem dX10_init_23 : decode cX10_init 23 = .ok (.sipush 26544, 3) := by decide +kernel
theorem dX10_init_26 : decode cX10_init 26 = .ok (.newarray .int, 2) := by decide +kernel
theorem dX10_init_28 : decode cX10_init 28 = .ok (.putfield 16, 3) := by decide +kernel
theorem dX10_init_31 : decode cX10_init 31 = .ok (.aload_n 0, 1) := by decide +kernel
theorem dX10_init_32 : decode cX10_init 32 = .ok (.sipush 400, 3) := by decide +kernel
theorem dX10_init_35 : decode cX10_init 35 = .ok (.newarray .int, 2) := by decide +kernel
theorem dX10_init_37 : decode cX10_init 37 = .ok (.putfield 19, 3) := by decide +kernel
theorem dX10_init_40 : decode cX10_init 40 = .ok (.aload_n 0, 1) := by decide +kernel
theorem dX10_init_41 : decode cX10_init 41 = .ok (.bipush 90, 2) := by decide +kernel
theorem dX10_init_43 : decode cX10_init 43 = .ok (.newarray .int, 2) := by decide +kernel
theorem dX10_init_45 : decode cX10_init 45 = .ok (.putfield 22, 3) := by decide +kernel
theorem dX10_init_48 : decode cX10_init 48 = .ok (.aload_n 0, 1) := by decide +kernel
theorem dX10_init_49 : decode cX10_init 49 = .ok (.bipush 90, 2) := by decide +kernel
theorem dX10_init_51 : decode cX10_init 51 = .ok (.newarray .int, 2) := by decide +kernel
theorem dX10_init_53 : decode cX10_init 53 = .ok (.putfield 25, 3) := by decide +kernel
theorem dX10_init_56 : decode cX10_init 56 = .ok (.aload_n 0, 1) := by decide +kernel
theorem dX10_init_57 : decode cX10_init 57 = .ok (.bipush 90, 2) := by decide +kernel
theorem dX10_init_59 : decode cX10_init 59 = .ok (.newarray .int, 2) := by decide +kernel
theorem dX10_init_61 : decode cX10_init 61 = .ok (.putfield 28, 3) := by decide +kernel
theorem dX10_init_64 : decode cX10_init 64 = .ok (.aload_n 0, 1) := by decide +kernel
theorem dX10_init_65 : decode cX10_init 65 = .ok (.bipush 9, 2) := by decide +kernel
theorem dX10_init_67 : decode cX10_init 67 = .ok (.newarray .int, 2) := by decide +kernel
theorem dX10_init_69 : decode cX10_init 69 = .ok (.putfield 31, 3) := by decide +kernel
theorem dX10_init_72 : decode cX10_init 72 = .ok (.aload_n 0, 1) := by decide +kernel
theorem dX10_init_73 : decode cX10_init 73 = .ok (.sipush 1000, 3) := by decide +kernel
theorem dX10_init_76 : decode cX10_init 76 = .ok (.newarray .long, 2) := by decide +kernel
theorem dX10_init_78 : decode cX10_init 78 = .ok (.putfield 34, 3) := by decide +kernel
theorem dX10_init_81 : decode cX10_init 81 = .ok (.aload_n 0, 1) := by decide +kernel
theorem dX10_init_82 : decode cX10_init 82 = .ok (.sipush 1000, 3) := by decide +kernel
theorem dX10_init_85 : decode cX10_init 85 = .ok (.newarray .int, 2) := by decide +kernel
theorem dX10_init_87 : decode cX10_init 87 = .ok (.putfield 38, 3) := by decide +kernel
theorem dX10_init_90 : decode cX10_init 90 = .ok (.aload_n 0, 1) := by decide +kernel
theorem dX10_init_91 : decode cX10_init 91 = .ok (.sipush 1000, 3) := by decide +kernel
theorem dX10_init_94 : decode cX10_init 94 = .ok (.newarray .int, 2) := by decide +kernel
theorem dX10_init_96 : decode cX10_init 96 = .ok (.putfield 41, 3) := by decide +kernel
theorem dX10_init_99 : decode cX10_init 99 = .ok (.aload_n 0, 1) := by decide +kernel
theorem dX10_init_100 : decode cX10_init 100 = .ok (.sipush 500, 3) := by decide +kernel
theorem dX10_init_103 : decode cX10_init 103 = .ok (.newarray .int, 2) := by decide +kernel
theorem dX10_init_105 : decode cX10_init 105 = .ok (.putfield 44, 3) := by decide +kernel
theorem dX10_init_108 : decode cX10_init 108 = .ok (.aload_n 0, 1) := by decide +kernel
theorem dX10_init_109 : decode cX10_init 109 = .ok (.getfield 7, 3) := by decide +kernel
theorem dX10_init_112 : decode cX10_init 112 = .ok (.iconst 2, 1) := by decide +kernel
theorem dX10_init_113 : decode cX10_init 113 = .ok (.iconst 1, 1) := by decide +kernel
theorem dX10_init_114 : decode cX10_init 114 = .ok (.iastore, 1) := by decide +kernel
theorem dX10_init_115 : decode cX10_init 115 = .ok (.return_, 1) := by decide +kernel
theorem dX10_isIn_0 : decode cX10_isIn 0 = .ok (.iload_n 0, 1) := by decide +kernel
theorem dX10_isIn_1 : decode cX10_isIn 1 = .ok (.iload_n 1, 1) := by decide +kernel
theorem dX10_isIn_2 : decode cX10_isIn 2 = .ok (.if_icmp .lt 12, 3) := by decide +kernel
theorem dX10_isIn_5 : decode cX10_isIn 5 = .ok (.iload_n 0, 1) := by decide +kernel
theorem dX10_isIn_6 : decode cX10_isIn 6 = .ok (.iload_n 2, 1) := by decide +kernel
theorem dX10_isIn_7 : decode cX10_isIn 7 = .ok (.if_icmp .gt 7, 3) := by decide +kernel
theorem dX10_isIn_10 : decode cX10_isIn 10 = .ok (.iconst 1, 1) := by decide +kernel
theorem dX10_isIn_11 : decode cX10_isIn 11 = .ok (.goto 4, 3) := by decide +kernel
theorem dX10_isIn_14 : decode cX10_isIn 14 = .ok (.iconst 0, 1) := by decide +kernel
theorem dX10_isIn_15 : decode cX10_isIn 15 = .ok (.ireturn, 1) := by decide +kernel
theorem dX10_isPart_0 : decode cX10_isPart 0 = .ok (.iload_n 1, 1) := by decide +kernel
theorem dX10_isPart_1 : decode cX10_isPart 1 = .ok (.iconst 0, 1) := by decide +kernel
theorem dX10_isPart_2 : decode cX10_isPart 2 = .ok (.aload_n 0, 1) := by decide +kernel
theorem dX10_isPart_3 : decode cX10_isPart 3 = .ok (.getfield 7, 3) := by decide +kernel
theorem dX10_isPart_6 : decode cX10_isPart 6 = .ok (.iconst 0, 1) := by decide +kernel
theorem dX10_isPart_7 : decode cX10_isPart 7 = .ok (.iaload, 1) := by decide +kernel
theorem dX10_isPart_8 : decode cX10_isPart 8 = .ok (.iconst 1, 1) := by decide +kernel
theorem dX10_isPart_9 : decode cX10_isPart 9 = .ok (.isub, 1) := by decide +kernel
theorem dX10_isPart_10 : decode cX10_isPart 10 = .ok (.invokestatic 51, 3) := by decide +kernel
theorem dX10_isPart_13 : decode cX10_isPart 13 = .ok (.ireturn, 1) := by decide +kernel
theorem dX10_isBase_0 : decode cX10_isBase 0 = .ok (.iload_n 1, 1) := by decide +kernel
theorem dX10_isBase_1 : decode cX10_isBase 1 = .ok (.iconst 0, 1) := by decide +kernel
theorem dX10_isBase_2 : decode cX10_isBase 2 = .ok (.aload_n 0, 1) := by decide +kernel
theorem dX10_isBase_3 : decode cX10_isBase 3 = .ok (.getfield 7, 3) := by decide +kernel
theorem dX10_isBase_6 : decode cX10_isBase 6 = .ok (.iconst 1, 1) := by decide +kernel
theorem dX10_isBase_7 : decode cX10_isBase 7 = .ok (.iaload, 1) := by decide +kernel
theorem dX10_isBase_8 : decode cX10_isBase 8 = .ok (.iconst 1, 1) := by decide +kernel
theorem dX10_isBase_9 : decode cX10_isBase 9 = .ok (.isub, 1) := by decide +kernel
theorem dX10_isBase_10 : decode cX10_isBase 10 = .ok (.invokestatic 51, 3) := by decide +kernel
theorem dX10_isBase_13 : decode cX10_isBase 13 = .ok (.ireturn, 1) := by decide +kernel
theorem dX10_isCell_0 : decode cX10_isCell 0 = .ok (.aload_n 0, 1) := by decide +kernel
theorem dX10_isCell_1 : decode cX10_isCell 1 = .ok (.iload_n 1, 1) := by decide +kernel
theorem dX10_isCell_2 : decode cX10_isCell 2 = .ok (.invokevirtual 55, 3) := by decide +kernel
theorem dX10_isCell_5 : decode cX10_isCell 5 = .ok (.ifCond .eq 15, 3) := by decide +kernel
theorem dX10_isCell_8 : decode cX10_isCell 8 = .ok (.aload_n 0, 1) := by decide +kernel
theorem dX10_isCell_9 : decode cX10_isCell 9 = .ok (.iload_n 2, 1) := by decide +kernel
theorem dX10_isCell_10 : decode cX10_isCell 10 = .ok (.invokevirtual 59, 3) := by decide +kernel
theorem dX10_isCell_13 : decode cX10_isCell 13 = .ok (.ifCond .eq 7, 3) := by decide +kernel
theorem dX10_isCell_16 : decode cX10_isCell 16 = .ok (.iconst 1, 1) := by decide +kernel
theorem dX10_isCell_17 : decode cX10_isCell 17 = .ok (.goto 4, 3) := by decide +kernel
theorem dX10_isCell_20 : decode cX10_isCell 20 = .ok (.iconst 0, 1) := by decide +kernel
theorem dX10_isCell_21 : decode cX10_isCell 21 = .ok (.ireturn, 1) := by decide +kernel
theorem dX10_cellOf_0 : decode cX10_cellOf 0 = .ok (.iconst 3, 1) := by decide +kernel
theorem dX10_cellOf_1 : decode cX10_cellOf 1 = .ok (.iload_n 0, 1) := by decide +kernel
theorem dX10_cellOf_2 : decode cX10_cellOf 2 = .ok (.imul, 1) := by decide +kernel
theorem dX10_cellOf_3 : decode cX10_cellOf 3 = .ok (.iload_n 1, 1) := by decide +kernel
theorem dX10_cellOf_4 : decode cX10_cellOf 4 = .ok (.iadd, 1) := by decide +kernel
theorem dX10_cellOf_5 : decode cX10_cellOf 5 = .ok (.ireturn, 1) := by decide +kernel
theorem dX10_feed_0 : decode cX10_feed 0 = .ok (.aload_n 0, 1) := by decide +kernel
theorem dX10_feed_1 : decode cX10_feed 1 = .ok (.getfield 62, 3) := by decide +kernel
theorem dX10_feed_4 : decode cX10_feed 4 = .ok (.bipush 20, 2) := by decide +kernel
theorem dX10_feed_6 : decode cX10_feed 6 = .ok (.iadd, 1) := by decide +kernel
theorem dX10_feed_7 : decode cX10_feed 7 = .ok (.sipush 400, 3) := by decide +kernel
theorem dX10_feed_10 : decode cX10_feed 10 = .ok (.if_icmp .le 5, 3) := by decide +kernel
theorem dX10_feed_13 : decode cX10_feed 13 = .ok (.iconst (-1), 1) := by decide +kernel
theorem dX10_feed_14 : decode cX10_feed 14 = .ok (.ireturn, 1) := by decide +kernel
theorem dX10_feed_15 : decode cX10_feed 15 = .ok (.iconst 0, 1) := by decide +kernel
theorem dX10_feed_16 : decode cX10_feed 16 = .ok (.istore 6, 2) := by decide +kernel
theorem dX10_feed_18 : decode cX10_feed 18 = .ok (.iload 6, 2) := by decide +kernel
theorem dX10_feed_20 : decode cX10_feed 20 = .ok (.bipush 20, 2) := by decide +kernel
theorem dX10_feed_22 : decode cX10_feed 22 = .ok (.if_icmp .ge 93, 3) := by decide +kernel
theorem dX10_feed_25 : decode cX10_feed 25 = .ok (.iload 6, 2) := by decide +kernel
theorem dX10_feed_27 : decode cX10_feed 27 = .ok (.iconst 4, 1) := by decide +kernel
theorem dX10_feed_28 : decode cX10_feed 28 = .ok (.if_icmp .ge 7, 3) := by decide +kernel
theorem dX10_feed_31 : decode cX10_feed 31 = .ok (.iload_n 1, 1) := by decide +kernel
theorem dX10_feed_32 : decode cX10_feed 32 = .ok (.goto 39, 3) := by decide +kernel
theorem dX10_feed_35 : decode cX10_feed 35 = .ok (.iload 6, 2) := by decide +kernel
theorem dX10_feed_37 : decode cX10_feed 37 = .ok (.bipush 8, 2) := by decide +kernel
theorem dX10_feed_39 : decode cX10_feed 39 = .ok (.if_icmp .ge 7, 3) := by decide +kernel
theorem dX10_feed_42 : decode cX10_feed 42 = .ok (.iload_n 2, 1) := by decide +kernel
theorem dX10_feed_43 : decode cX10_feed 43 = .ok (.goto 28, 3) := by decide +kernel
theorem dX10_feed_46 : decode cX10_feed 46 = .ok (.iload 6, 2) := by decide +kernel
theorem dX10_feed_48 : decode cX10_feed 48 = .ok (.bipush 12, 2) := by decide +kernel
theorem dX10_feed_50 : decode cX10_feed 50 = .ok (.if_icmp .ge 7, 3) := by decide +kernel
theorem dX10_feed_53 : decode cX10_feed 53 = .ok (.iload_n 3, 1) := by decide +kernel
theorem dX10_feed_54 : decode cX10_feed 54 = .ok (.goto 17, 3) := by decide +kernel
theorem dX10_feed_57 : decode cX10_feed 57 = .ok (.iload 6, 2) := by decide +kernel
theorem dX10_feed_59 : decode cX10_feed 59 = .ok (.bipush 16, 2) := by decide +kernel
theorem dX10_feed_61 : decode cX10_feed 61 = .ok (.if_icmp .ge 8, 3) := by decide +kernel
theorem dX10_feed_64 : decode cX10_feed 64 = .ok (.iload 4, 2) := by decide +kernel
theorem dX10_feed_66 : decode cX10_feed 66 = .ok (.goto 5, 3) := by decide +kernel
theorem dX10_feed_69 : decode cX10_feed 69 = .ok (.iload 5, 2) := by decide +kernel
theorem dX10_feed_71 : decode cX10_feed 71 = .ok (.istore 7, 2) := by decide +kernel
theorem dX10_feed_73 : decode cX10_feed 73 = .ok (.aload_n 0, 1) := by decide +kernel
theorem dX10_feed_74 : decode cX10_feed 74 = .ok (.getfield 19, 3) := by decide +kernel
theorem dX10_feed_77 : decode cX10_feed 77 = .ok (.aload_n 0, 1) := by decide +kernel
theorem dX10_feed_78 : decode cX10_feed 78 = .ok (.getfield 62, 3) := by decide +kernel
theorem dX10_feed_81 : decode cX10_feed 81 = .ok (.iload 7, 2) := by decide +kernel
theorem dX10_feed_83 : decode cX10_feed 83 = .ok (.bipush 24, 2) := by decide +kernel
theorem dX10_feed_85 : decode cX10_feed 85 = .ok (.bipush 8, 2) := by decide +kernel
theorem dX10_feed_87 : decode cX10_feed 87 = .ok (.iload 6, 2) := by decide +kernel
theorem dX10_feed_89 : decode cX10_feed 89 = .ok (.iconst 4, 1) := by decide +kernel
theorem dX10_feed_90 : decode cX10_feed 90 = .ok (.irem, 1) := by decide +kernel
theorem dX10_feed_91 : decode cX10_feed 91 = .ok (.imul, 1) := by decide +kernel
theorem dX10_feed_92 : decode cX10_feed 92 = .ok (.isub, 1) := by decide +kernel
theorem dX10_feed_93 : decode cX10_feed 93 = .ok (.ishr, 1) := by decide +kernel
theorem dX10_feed_94 : decode cX10_feed 94 = .ok (.sipush 255, 3) := by decide +kernel
theorem dX10_feed_97 : decode cX10_feed 97 = .ok (.iand, 1) := by decide +kernel
theorem dX10_feed_98 : decode cX10_feed 98 = .ok (.iastore, 1) := by decide +kernel
theorem dX10_feed_99 : decode cX10_feed 99 = .ok (.aload_n 0, 1) := by decide +kernel
theorem dX10_feed_100 : decode cX10_feed 100 = .ok (.dup, 1) := by decide +kernel
theorem dX10_feed_101 : decode cX10_feed 101 = .ok (.getfield 62, 3) := by decide +kernel
theorem dX10_feed_104 : decode cX10_feed 104 = .ok (.iconst 1, 1) := by decide +kernel
theorem dX10_feed_105 : decode cX10_feed 105 = .ok (.iadd, 1) := by decide +kernel
theorem dX10_feed_106 : decode cX10_feed 106 = .ok (.putfield 62, 3) := by decide +kernel
theorem dX10_feed_109 : decode cX10_feed 109 = .ok (.iinc 6 1, 3) := by decide +kernel
theorem dX10_feed_112 : decode cX10_feed 112 = .ok (.goto (-94), 3) := by decide +kernel
theorem dX10_feed_115 : decode cX10_feed 115 = .ok (.aload_n 0, 1) := by decide +kernel
theorem dX10_feed_116 : decode cX10_feed 116 = .ok (.getfield 62, 3) := by decide +kernel
theorem dX10_feed_119 : decode cX10_feed 119 = .ok (.ireturn, 1) := by decide +kernel
theorem dX10_back_0 : decode cX10_back 0 = .ok (.iload_n 1, 1) := by decide +kernel
theorem dX10_back_1 : decode cX10_back 1 = .ok (.iconst 0, 1) := by decide +kernel
theorem dX10_back_2 : decode cX10_back 2 = .ok (.aload_n 0, 1) := by decide +kernel
theorem dX10_back_3 : decode cX10_back 3 = .ok (.getfield 62, 3) := by decide +kernel
theorem dX10_back_6 : decode cX10_back 6 = .ok (.invokestatic 51, 3) := by decide +kernel
theorem dX10_back_9 : decode cX10_back 9 = .ok (.ifCond .ne 5, 3) := by decide +kernel
theorem dX10_back_12 : decode cX10_back 12 = .ok (.iconst (-1), 1) := by decide +kernel
theorem dX10_back_13 : decode cX10_back 13 = .ok (.ireturn, 1) := by decide +kernel
theorem dX10_back_14 : decode cX10_back 14 = .ok (.aload_n 0, 1) := by decide +kernel
theorem dX10_back_15 : decode cX10_back 15 = .ok (.dup, 1) := by decide +kernel
theorem dX10_back_16 : decode cX10_back 16 = .ok (.getfield 62, 3) := by decide +kernel
theorem dX10_back_19 : decode cX10_back 19 = .ok (.iload_n 1, 1) := by decide +kernel
theorem dX10_back_20 : decode cX10_back 20 = .ok (.isub, 1) := by decide +kernel
theorem dX10_back_21 : decode cX10_back 21 = .ok (.putfield 62, 3) := by decide +kernel
theorem dX10_back_24 : decode cX10_back 24 = .ok (.aload_n 0, 1) := by decide +kernel
theorem dX10_back_25 : decode cX10_back 25 = .ok (.getfield 62, 3) := by decide +kernel
theorem dX10_back_28 : decode cX10_back 28 = .ok (.ireturn, 1) := by decide +kernel
theorem dX10_isLetter_0 : decode cX10_isLetter 0 = .ok (.iload_n 1, 1) := by decide +kernel
theorem dX10_isLetter_1 : decode cX10_isLetter 1 = .ok (.aload_n 0, 1) := by decide +kernel
theorem dX10_isLetter_2 : decode cX10_isLetter 2 = .ok (.getfield 65, 3) := by decide +kernel
theorem dX10_isLetter_5 : decode cX10_isLetter 5 = .ok (.if_icmp .ge 23, 3) := by decide +kernel
theorem dX10_isLetter_8 : decode cX10_isLetter 8 = .ok (.aload_n 0, 1) := by decide +kernel
theorem dX10_isLetter_9 : decode cX10_isLetter 9 = .ok (.getfield 19, 3) := by decide +kernel
theorem dX10_isLetter_12 : decode cX10_isLetter 12 = .ok (.iload_n 1, 1) := by decide +kernel
theorem dX10_isLetter_13 : decode cX10_isLetter 13 = .ok (.iaload, 1) := by decide +kernel
theorem dX10_isLetter_14 : decode cX10_isLetter 14 = .ok (.bipush 97, 2) := by decide +kernel
theorem dX10_isLetter_16 : decode cX10_isLetter 16 = .ok (.bipush 122, 2) := by decide +kernel
theorem dX10_isLetter_18 : decode cX10_isLetter 18 = .ok (.invokestatic 51, 3) := by decide +kernel
theorem dX10_isLetter_21 : decode cX10_isLetter 21 = .ok (.ifCond .eq 7, 3) := by decide +kernel
theorem dX10_isLetter_24 : decode cX10_isLetter 24 = .ok (.iconst 1, 1) := by decide +kernel
theorem dX10_isLetter_25 : decode cX10_isLetter 25 = .ok (.goto 4, 3) := by decide +kernel
theorem dX10_isLetter_28 : decode cX10_isLetter 28 = .ok (.iconst 0, 1) := by decide +kernel
theorem dX10_isLetter_29 : decode cX10_isLetter 29 = .ok (.ireturn, 1) := by decide +kernel
theorem dX10_isDigit_0 : decode cX10_isDigit 0 = .ok (.iload_n 1, 1) := by decide +kernel
theorem dX10_isDigit_1 : decode cX10_isDigit 1 = .ok (.aload_n 0, 1) := by decide +kernel
theorem dX10_isDigit_2 : decode cX10_isDigit 2 = .ok (.getfield 65, 3) := by decide +kernel
theorem dX10_isDigit_5 : decode cX10_isDigit 5 = .ok (.if_icmp .ge 23, 3) := by decide +kernel
theorem dX10_isDigit_8 : decode cX10_isDigit 8 = .ok (.aload_n 0, 1) := by decide +kernel
theorem dX10_isDigit_9 : decode cX10_isDigit 9 = .ok (.getfield 19, 3) := by decide +kernel
theorem dX10_isDigit_12 : decode cX10_isDigit 12 = .ok (.iload_n 1, 1) := by decide +kernel
theorem dX10_isDigit_13 : decode cX10_isDigit 13 = .ok (.iaload, 1) := by decide +kernel
theorem dX10_isDigit_14 : decode cX10_isDigit 14 = .ok (.bipush 48, 2) := by decide +kernel
theorem dX10_isDigit_16 : decode cX10_isDigit 16 = .ok (.bipush 57, 2) := by decide +kernel
theorem dX10_isDigit_18 : decode cX10_isDigit 18 = .ok (.invokestatic 51, 3) := by decide +kernel
theorem dX10_isDigit_21 : decode cX10_isDigit 21 = .ok (.ifCond .eq 7, 3) := by decide +kernel
theorem dX10_isDigit_24 : decode cX10_isDigit 24 = .ok (.iconst 1, 1) := by decide +kernel
theorem dX10_isDigit_25 : decode cX10_isDigit 25 = .ok (.goto 4, 3) := by decide +kernel
theorem dX10_isDigit_28 : decode cX10_isDigit 28 = .ok (.iconst 0, 1) := by decide +kernel
theorem dX10_isDigit_29 : decode cX10_isDigit 29 = .ok (.ireturn, 1) := by decide +kernel
theorem dX10_wrong_0 : decode cX10_wrong 0 = .ok (.aload_n 0, 1) := by decide +kernel
theorem dX10_wrong_1 : decode cX10_wrong 1 = .ok (.getfield 68, 3) := by decide +kernel
theorem dX10_wrong_4 : decode cX10_wrong 4 = .ok (.iconst (-1), 1) := by decide +kernel
theorem dX10_wrong_5 : decode cX10_wrong 5 = .ok (.if_icmp .ne 8, 3) := by decide +kernel
theorem dX10_wrong_8 : decode cX10_wrong 8 = .ok (.aload_n 0, 1) := by decide +kernel
theorem dX10_wrong_9 : decode cX10_wrong 9 = .ok (.iload_n 1, 1) := by decide +kernel
theorem dX10_wrong_10 : decode cX10_wrong 10 = .ok (.putfield 68, 3) := by decide +kernel
theorem dX10_wrong_13 : decode cX10_wrong 13 = .ok (.return_, 1) := by decide +kernel
theorem dX10_nextToken_0 : decode cX10_nextToken 0 = .ok (.aload_n 0, 1) := by decide +kernel
theorem dX10_nextToken_1 : decode cX10_nextToken 1 = .ok (.getfield 71, 3) := by decide +kernel
theorem dX10_nextToken_4 : decode cX10_nextToken 4 = .ok (.istore_n 1, 1) := by decide +kernel
theorem dX10_nextToken_5 : decode cX10_nextToken 5 = .ok (.aload_n 0, 1) := by decide +kernel
theorem dX10_nextToken_6 : decode cX10_nextToken 6 = .ok (.getfield 71, 3) := by decide +kernel
theorem dX10_nextToken_9 : decode cX10_nextToken 9 = .ok (.aload_n 0, 1) := by decide +kernel
theorem dX10_nextToken_10 : decode cX10_nextToken 10 = .ok (.getfield 65, 3) := by decide +kernel
theorem dX10_nextToken_13 : decode cX10_nextToken 13 = .ok (.if_icmp .ge 44, 3) := by decide +kernel
theorem dX10_nextToken_16 : decode cX10_nextToken 16 = .ok (.aload_n 0, 1) := by decide +kernel
theorem dX10_nextToken_17 : decode cX10_nextToken 17 = .ok (.getfield 19, 3) := by decide +kernel
theorem dX10_nextToken_20 : decode cX10_nextToken 20 = .ok (.aload_n 0, 1) := by decide +kernel
theorem dX10_nextToken_21 : decode cX10_nextToken 21 = .ok (.getfield 71, 3) := by decide +kernel
theorem dX10_nextToken_24 : decode cX10_nextToken 24 = .ok (.iaload, 1) := by decide +kernel
theorem dX10_nextToken_25 : decode cX10_nextToken 25 = .ok (.bipush 32, 2) := by decide +kernel
theorem dX10_nextToken_27 : decode cX10_nextToken 27 = .ok (.if_icmp .eq 17, 3) := by decide +kernel
theorem dX10_nextToken_30 : decode cX10_nextToken 30 = .ok (.aload_n 0, 1) := by decide +kernel
theorem dX10_nextToken_31 : decode cX10_nextToken 31 = .ok (.getfield 19, 3) := by decide +kernel
theorem dX10_nextToken_34 : decode cX10_nextToken 34 = .ok (.aload_n 0, 1) := by decide +kernel
theorem dX10_nextToken_35 : decode cX10_nextToken 35 = .ok (.getfield 71, 3) := by decide +kernel
theorem dX10_nextToken_38 : decode cX10_nextToken 38 = .ok (.iaload, 1) := by decide +kernel
theorem dX10_nextToken_39 : decode cX10_nextToken 39 = .ok (.bipush 10, 2) := by decide +kernel
theorem dX10_nextToken_41 : decode cX10_nextToken 41 = .ok (.if_icmp .ne 16, 3) := by decide +kernel
theorem dX10_nextToken_44 : decode cX10_nextToken 44 = .ok (.aload_n 0, 1) := by decide +kernel
theorem dX10_nextToken_45 : decode cX10_nextToken 45 = .ok (.dup, 1) := by decide +kernel
theorem dX10_nextToken_46 : decode cX10_nextToken 46 = .ok (.getfield 71, 3) := by decide +kernel
theorem dX10_nextToken_49 : decode cX10_nextToken 49 = .ok (.iconst 1, 1) := by decide +kernel
theorem dX10_nextToken_50 : decode cX10_nextToken 50 = .ok (.iadd, 1) := by decide +kernel
theorem dX10_nextToken_51 : decode cX10_nextToken 51 = .ok (.putfield 71, 3) := by decide +kernel
theorem dX10_nextToken_54 : decode cX10_nextToken 54 = .ok (.goto (-49), 3) := by decide +kernel
theorem dX10_nextToken_57 : decode cX10_nextToken 57 = .ok (.aload_n 0, 1) := by decide +kernel
theorem dX10_nextToken_58 : decode cX10_nextToken 58 = .ok (.aload_n 0, 1) := by decide +kernel
theorem dX10_nextToken_59 : decode cX10_nextToken 59 = .ok (.getfield 71, 3) := by decide +kernel
theorem dX10_nextToken_62 : decode cX10_nextToken 62 = .ok (.putfield 74, 3) := by decide +kernel
theorem dX10_nextToken_65 : decode cX10_nextToken 65 = .ok (.aload_n 0, 1) := by decide +kernel
theorem dX10_nextToken_66 : decode cX10_nextToken 66 = .ok (.iconst 0, 1) := by decide +kernel
theorem dX10_nextToken_67 : decode cX10_nextToken 67 = .ok (.putfield 77, 3) := by decide +kernel
theorem dX10_nextToken_70 : decode cX10_nextToken 70 = .ok (.aload_n 0, 1) := by decide +kernel
theorem dX10_nextToken_71 : decode cX10_nextToken 71 = .ok (.getfield 71, 3) := by decide +kernel
theorem dX10_nextToken_74 : decode cX10_nextToken 74 = .ok (.iload_n 1, 1) := by decide +kernel
theorem dX10_nextToken_75 : decode cX10_nextToken 75 = .ok (.if_icmp .ne 66, 3) := by decide +kernel
theorem dX10_nextToken_78 : decode cX10_nextToken 78 = .ok (.aload_n 0, 1) := by decide +kernel
theorem dX10_nextToken_79 : decode cX10_nextToken 79 = .ok (.getfield 71, 3) := by decide +kernel
theorem dX10_nextToken_82 : decode cX10_nextToken 82 = .ok (.ifCond .le 59, 3) := by decide +kernel
theorem dX10_nextToken_85 : decode cX10_nextToken 85 = .ok (.aload_n 0, 1) := by decide +kernel
theorem dX10_nextToken_86 : decode cX10_nextToken 86 = .ok (.aload_n 0, 1) := by decide +kernel
theorem dX10_nextToken_87 : decode cX10_nextToken 87 = .ok (.getfield 71, 3) := by decide +kernel
theorem dX10_nextToken_90 : decode cX10_nextToken 90 = .ok (.invokevirtual 80, 3) := by decide +kernel
theorem dX10_nextToken_93 : decode cX10_nextToken 93 = .ok (.ifCond .ne 14, 3) := by decide +kernel
theorem dX10_nextToken_96 : decode cX10_nextToken 96 = .ok (.aload_n 0, 1) := by decide +kernel
theorem dX10_nextToken_97 : decode cX10_nextToken 97 = .ok (.aload_n 0, 1) := by decide +kernel
theorem dX10_nextToken_98 : decode cX10_nextToken 98 = .ok (.getfield 71, 3) := by decide +kernel
theorem dX10_nextToken_101 : decode cX10_nextToken 101 = .ok (.invokevirtual 83, 3) := by decide +kernel
theorem dX10_nextToken_104 : decode cX10_nextToken 104 = .ok (.ifCond .eq 37, 3) := by decide +kernel
theorem dX10_nextToken_107 : decode cX10_nextToken 107 = .ok (.aload_n 0, 1) := by decide +kernel
theorem dX10_nextToken_108 : decode cX10_nextToken 108 = .ok (.aload_n 0, 1) := by decide +kernel
theorem dX10_nextToken_109 : decode cX10_nextToken 109 = .ok (.getfield 71, 3) := by decide +kernel
theorem dX10_nextToken_112 : decode cX10_nextToken 112 = .ok (.iconst 1, 1) := by decide +kernel
theorem dX10_nextToken_113 : decode cX10_nextToken 113 = .ok (.isub, 1) := by decide +kernel
theorem dX10_nextToken_114 : decode cX10_nextToken 114 = .ok (.invokevirtual 80, 3) := by decide +kernel
theorem dX10_nextToken_117 : decode cX10_nextToken 117 = .ok (.ifCond .ne 16, 3) := by decide +kernel
theorem dX10_nextToken_120 : decode cX10_nextToken 120 = .ok (.aload_n 0, 1) := by decide +kernel
theorem dX10_nextToken_121 : decode cX10_nextToken 121 = .ok (.aload_n 0, 1) := by decide +kernel
theorem dX10_nextToken_122 : decode cX10_nextToken 122 = .ok (.getfield 71, 3) := by decide +kernel
theorem dX10_nextToken_125 : decode cX10_nextToken 125 = .ok (.iconst 1, 1) := by decide +kernel
theorem dX10_nextToken_126 : decode cX10_nextToken 126 = .ok (.isub, 1) := by decide +kernel
theorem dX10_nextToken_127 : decode cX10_nextToken 127 = .ok (.invokevirtual 83, 3) := by decide +kernel
theorem dX10_nextToken_130 : decode cX10_nextToken 130 = .ok (.ifCond .eq 11, 3) := by decide +kernel
theorem dX10_nextToken_133 : decode cX10_nextToken 133 = .ok (.aload_n 0, 1) := by decide +kernel
theorem dX10_nextToken_134 : decode cX10_nextToken 134 = .ok (.aload_n 0, 1) := by decide +kernel
theorem dX10_nextToken_135 : decode cX10_nextToken 135 = .ok (.getfield 71, 3) := by decide +kernel
theorem dX10_nextToken_138 : decode cX10_nextToken 138 = .ok (.invokevirtual 86, 3) := by decide +kernel
theorem dX10_nextToken_141 : decode cX10_nextToken 141 = .ok (.aload_n 0, 1) := by decide +kernel
theorem dX10_nextToken_142 : decode cX10_nextToken 142 = .ok (.getfield 71, 3) := by decide +kernel
theorem dX10_nextToken_145 : decode cX10_nextToken 145 = .ok (.aload_n 0, 1) := by decide +kernel
theorem dX10_nextToken_146 : decode cX10_nextToken 146 = .ok (.getfield 65, 3) := by decide +kernel
theorem dX10_nextToken_149 : decode cX10_nextToken 149 = .ok (.if_icmp .ne 11, 3) := by decide +kernel
theorem dX10_nextToken_152 : decode cX10_nextToken 152 = .ok (.aload_n 0, 1) := by decide +kernel
theorem dX10_nextToken_153 : decode cX10_nextToken 153 = .ok (.iconst 0, 1) := by decide +kernel
theorem dX10_nextToken_154 : decode cX10_nextToken 154 = .ok (.putfield 90, 3) := by decide +kernel
theorem dX10_nextToken_157 : decode cX10_nextToken 157 = .ok (.goto 154, 3) := by decide +kernel
theorem dX10_nextToken_160 : decode cX10_nextToken 160 = .ok (.aload_n 0, 1) := by decide +kernel
theorem dX10_nextToken_161 : decode cX10_nextToken 161 = .ok (.aload_n 0, 1) := by decide +kernel
theorem dX10_nextToken_162 : decode cX10_nextToken 162 = .ok (.getfield 71, 3) := by decide +kernel
theorem dX10_nextToken_165 : decode cX10_nextToken 165 = .ok (.invokevirtual 80, 3) := by decide +kernel
theorem dX10_nextToken_168 : decode cX10_nextToken 168 = .ok (.ifCond .eq 32, 3) := by decide +kernel
theorem dX10_nextToken_171 : decode cX10_nextToken 171 = .ok (.aload_n 0, 1) := by decide +kernel
theorem dX10_nextToken_172 : decode cX10_nextToken 172 = .ok (.iconst 1, 1) := by decide +kernel
theorem dX10_nextToken_173 : decode cX10_nextToken 173 = .ok (.putfield 90, 3) := by decide +kernel
theorem dX10_nextToken_176 : decode cX10_nextToken 176 = .ok (.aload_n 0, 1) := by decide +kernel
theorem dX10_nextToken_177 : decode cX10_nextToken 177 = .ok (.aload_n 0, 1) := by decide +kernel
theorem dX10_nextToken_178 : decode cX10_nextToken 178 = .ok (.getfield 71, 3) := by decide +kernel
theorem dX10_nextToken_181 : decode cX10_nextToken 181 = .ok (.invokevirtual 80, 3) := by decide +kernel
theorem dX10_nextToken_184 : decode cX10_nextToken 184 = .ok (.ifCond .eq 127, 3) := by decide +kernel
theorem dX10_nextToken_187 : decode cX10_nextToken 187 = .ok (.aload_n 0, 1) := by decide +kernel
theorem dX10_nextToken_188 : decode cX10_nextToken 188 = .ok (.dup, 1) := by decide +kernel
theorem dX10_nextToken_189 : decode cX10_nextToken 189 = .ok (.getfield 71, 3) := by decide +kernel
theorem dX10_nextToken_192 : decode cX10_nextToken 192 = .ok (.iconst 1, 1) := by decide +kernel
theorem dX10_nextToken_193 : decode cX10_nextToken 193 = .ok (.iadd, 1) := by decide +kernel
theorem dX10_nextToken_194 : decode cX10_nextToken 194 = .ok (.putfield 71, 3) := by decide +kernel
theorem dX10_nextToken_197 : decode cX10_nextToken 197 = .ok (.goto (-21), 3) := by decide +kernel
theorem dX10_nextToken_200 : decode cX10_nextToken 200 = .ok (.aload_n 0, 1) := by decide +kernel
theorem dX10_nextToken_201 : decode cX10_nextToken 201 = .ok (.aload_n 0, 1) := by decide +kernel
theorem dX10_nextToken_202 : decode cX10_nextToken 202 = .ok (.getfield 71, 3) := by decide +kernel
theorem dX10_nextToken_205 : decode cX10_nextToken 205 = .ok (.invokevirtual 83, 3) := by decide +kernel
theorem dX10_nextToken_208 : decode cX10_nextToken 208 = .ok (.ifCond .eq 75, 3) := by decide +kernel
theorem dX10_nextToken_211 : decode cX10_nextToken 211 = .ok (.aload_n 0, 1) := by decide +kernel
theorem dX10_nextToken_212 : decode cX10_nextToken 212 = .ok (.iconst 2, 1) := by decide +kernel
theorem dX10_nextToken_213 : decode cX10_nextToken 213 = .ok (.putfield 90, 3) := by decide +kernel
theorem dX10_nextToken_216 : decode cX10_nextToken 216 = .ok (.aload_n 0, 1) := by decide +kernel
theorem dX10_nextToken_217 : decode cX10_nextToken 217 = .ok (.aload_n 0, 1) := by decide +kernel
theorem dX10_nextToken_218 : decode cX10_nextToken 218 = .ok (.getfield 71, 3) := by decide +kernel
theorem dX10_nextToken_221 : decode cX10_nextToken 221 = .ok (.invokevirtual 83, 3) := by decide +kernel
theorem dX10_nextToken_224 : decode cX10_nextToken 224 = .ok (.ifCond .eq 87, 3) := by decide +kernel
theorem dX10_nextToken_227 : decode cX10_nextToken 227 = .ok (.aload_n 0, 1) := by decide +kernel
theorem dX10_nextToken_228 : decode cX10_nextToken 228 = .ok (.aload_n 0, 1) := by decide +kernel
theorem dX10_nextToken_229 : decode cX10_nextToken 229 = .ok (.getfield 71, 3) := by decide +kernel
theorem dX10_nextToken_232 : decode cX10_nextToken 232 = .ok (.aload_n 0, 1) := by decide +kernel
theorem dX10_nextToken_233 : decode cX10_nextToken 233 = .ok (.getfield 74, 3) := by decide +kernel
theorem dX10_nextToken_236 : decode cX10_nextToken 236 = .ok (.isub, 1) := by decide +kernel
theorem dX10_nextToken_237 : decode cX10_nextToken 237 = .ok (.iconst 1, 1) := by decide +kernel
theorem dX10_nextToken_238 : decode cX10_nextToken 238 = .ok (.if_icmp .le 9, 3) := by decide +kernel
theorem dX10_nextToken_241 : decode cX10_nextToken 241 = .ok (.sipush 1000, 3) := by decide +kernel
theorem dX10_nextToken_244 : decode cX10_nextToken 244 = .ok (.goto 23, 3) := by decide +kernel
theorem dX10_nextToken_247 : decode cX10_nextToken 247 = .ok (.bipush 10, 2) := by decide +kernel
theorem dX10_nextToken_249 : decode cX10_nextToken 249 = .ok (.aload_n 0, 1) := by decide +kernel
theorem dX10_nextToken_250 : decode cX10_nextToken 250 = .ok (.getfield 77, 3) := by decide +kernel
theorem dX10_nextToken_253 : decode cX10_nextToken 253 = .ok (.imul, 1) := by decide +kernel
theorem dX10_nextToken_254 : decode cX10_nextToken 254 = .ok (.aload_n 0, 1) := by decide +kernel
theorem dX10_nextToken_255 : decode cX10_nextToken 255 = .ok (.getfield 19, 3) := by decide +kernel
theorem dX10_nextToken_258 : decode cX10_nextToken 258 = .ok (.aload_n 0, 1) := by decide +kernel
theorem dX10_nextToken_259 : decode cX10_nextToken 259 = .ok (.getfield 71, 3) := by decide +kernel
theorem dX10_nextToken_262 : decode cX10_nextToken 262 = .ok (.iaload, 1) := by decide +kernel
theorem dX10_nextToken_263 : decode cX10_nextToken 263 = .ok (.iadd, 1) := by decide +kernel
theorem dX10_nextToken_264 : decode cX10_nextToken 264 = .ok (.bipush 48, 2) := by decide +kernel
theorem dX10_nextToken_266 : decode cX10_nextToken 266 = .ok (.isub, 1) := by decide +kernel
theorem dX10_nextToken_267 : decode cX10_nextToken 267 = .ok (.putfield 77, 3) := by decide +kernel
theorem dX10_nextToken_270 : decode cX10_nextToken 270 = .ok (.aload_n 0, 1) := by decide +kernel
theorem dX10_nextToken_271 : decode cX10_nextToken 271 = .ok (.dup, 1) := by decide +kernel
theorem dX10_nextToken_272 : decode cX10_nextToken 272 = .ok (.getfield 71, 3) := by decide +kernel
theorem dX10_nextToken_275 : decode cX10_nextToken 275 = .ok (.iconst 1, 1) := by decide +kernel
theorem dX10_nextToken_276 : decode cX10_nextToken 276 = .ok (.iadd, 1) := by decide +kernel
theorem dX10_nextToken_277 : decode cX10_nextToken 277 = .ok (.putfield 71, 3) := by decide +kernel
theorem dX10_nextToken_280 : decode cX10_nextToken 280 = .ok (.goto (-64), 3) := by decide +kernel
theorem dX10_nextToken_283 : decode cX10_nextToken 283 = .ok (.aload_n 0, 1) := by decide +kernel
theorem dX10_nextToken_284 : decode cX10_nextToken 284 = .ok (.iconst 3, 1) := by decide +kernel
theorem dX10_nextToken_285 : decode cX10_nextToken 285 = .ok (.putfield 90, 3) := by decide +kernel
theorem dX10_nextToken_288 : decode cX10_nextToken 288 = .ok (.aload_n 0, 1) := by decide +kernel
theorem dX10_nextToken_289 : decode cX10_nextToken 289 = .ok (.aload_n 0, 1) := by decide +kernel
theorem dX10_nextToken_290 : decode cX10_nextToken 290 = .ok (.getfield 19, 3) := by decide +kernel
theorem dX10_nextToken_293 : decode cX10_nextToken 293 = .ok (.aload_n 0, 1) := by decide +kernel
theorem dX10_nextToken_294 : decode cX10_nextToken 294 = .ok (.getfield 71, 3) := by decide +kernel
theorem dX10_nextToken_297 : decode cX10_nextToken 297 = .ok (.iaload, 1) := by decide +kernel
theorem dX10_nextToken_298 : decode cX10_nextToken 298 = .ok (.putfield 77, 3) := by decide +kernel
theorem dX10_nextToken_301 : decode cX10_nextToken 301 = .ok (.aload_n 0, 1) := by decide +kernel
theorem dX10_nextToken_302 : decode cX10_nextToken 302 = .ok (.dup, 1) := by decide +kernel
theorem dX10_nextToken_303 : decode cX10_nextToken 303 = .ok (.getfield 71, 3) := by decide +kernel
theorem dX10_nextToken_306 : decode cX10_nextToken 306 = .ok (.iconst 1, 1) := by decide +kernel
theorem dX10_nextToken_307 : decode cX10_nextToken 307 = .ok (.iadd, 1) := by decide +kernel
theorem dX10_nextToken_308 : decode cX10_nextToken 308 = .ok (.putfield 71, 3) := by decide +kernel
theorem dX10_nextToken_311 : decode cX10_nextToken 311 = .ok (.return_, 1) := by decide +kernel
theorem dX10_isWord_0 : decode cX10_isWord 0 = .ok (.lconst 0, 1) := by decide +kernel
theorem dX10_isWord_1 : decode cX10_isWord 1 = .ok (.lstore_n 3, 1) := by decide +kernel
theorem dX10_isWord_2 : decode cX10_isWord 2 = .ok (.aload_n 0, 1) := by decide +kernel
theorem dX10_isWord_3 : decode cX10_isWord 3 = .ok (.getfield 74, 3) := by decide +kernel
theorem dX10_isWord_6 : decode cX10_isWord 6 = .ok (.istore 5, 2) := by decide +kernel
theorem dX10_isWord_8 : decode cX10_isWord 8 = .ok (.aload_n 0, 1) := by decide +kernel
theorem dX10_isWord_9 : decode cX10_isWord 9 = .ok (.getfield 90, 3) := by decide +kernel
theorem dX10_isWord_12 : decode cX10_isWord 12 = .ok (.iconst 1, 1) := by decide +kernel
theorem dX10_isWord_13 : decode cX10_isWord 13 = .ok (.if_icmp .ne 49, 3) := by decide +kernel
theorem dX10_isWord_16 : decode cX10_isWord 16 = .ok (.iload 5, 2) := by decide +kernel
theorem dX10_isWord_18 : decode cX10_isWord 18 = .ok (.aload_n 0, 1) := by decide +kernel
theorem dX10_isWord_19 : decode cX10_isWord 19 = .ok (.getfield 71, 3) := by decide +kernel
theorem dX10_isWord_22 : decode cX10_isWord 22 = .ok (.if_icmp .ge 40, 3) := by decide +kernel
theorem dX10_isWord_25 : decode cX10_isWord 25 = .ok (.iload 5, 2) := by decide +kernel
theorem dX10_isWord_27 : decode cX10_isWord 27 = .ok (.aload_n 0, 1) := by decide +kernel
theorem dX10_isWord_28 : decode cX10_isWord 28 = .ok (.getfield 74, 3) := by decide +kernel
theorem dX10_isWord_31 : decode cX10_isWord 31 = .ok (.bipush 8, 2) := by decide +kernel
theorem dX10_isWord_33 : decode cX10_isWord 33 = .ok (.iadd, 1) := by decide +kernel
theorem dX10_isWord_34 : decode cX10_isWord 34 = .ok (.if_icmp .ge 28, 3) := by decide +kernel
theorem dX10_isWord_37 : decode cX10_isWord 37 = .ok (.ldc2_w 93, 3) := by decide +kernel
theorem dX10_isWord_40 : decode cX10_isWord 40 = .ok (.lload_n 3, 1) := by decide +kernel
theorem dX10_isWord_41 : decode cX10_isWord 41 = .ok (.lmul, 1) := by decide +kernel
theorem dX10_isWord_42 : decode cX10_isWord 42 = .ok (.aload_n 0, 1) := by decide +kernel
theorem dX10_isWord_43 : decode cX10_isWord 43 = .ok (.getfield 19, 3) := by decide +kernel
theorem dX10_isWord_46 : decode cX10_isWord 46 = .ok (.iload 5, 2) := by decide +kernel
theorem dX10_isWord_48 : decode cX10_isWord 48 = .ok (.iaload, 1) := by decide +kernel
theorem dX10_isWord_49 : decode cX10_isWord 49 = .ok (.i2l, 1) := by decide +kernel
theorem dX10_isWord_50 : decode cX10_isWord 50 = .ok (.ladd, 1) := by decide +kernel
theorem dX10_isWord_51 : decode cX10_isWord 51 = .ok (.ldc2_w 95, 3) := by decide +kernel
theorem dX10_isWord_54 : decode cX10_isWord 54 = .ok (.lsub, 1) := by decide +kernel
theorem dX10_isWord_55 : decode cX10_isWord 55 = .ok (.lstore_n 3, 1) := by decide +kernel
theorem dX10_isWord_56 : decode cX10_isWord 56 = .ok (.iinc 5 1, 3) := by decide +kernel
theorem dX10_isWord_59 : decode cX10_isWord 59 = .ok (.goto (-51), 3) := by decide +kernel
theorem dX10_isWord_62 : decode cX10_isWord 62 = .ok (.aload_n 0, 1) := by decide +kernel
theorem dX10_isWord_63 : decode cX10_isWord 63 = .ok (.getfield 90, 3) := by decide +kernel
theorem dX10_isWord_66 : decode cX10_isWord 66 = .ok (.iconst 1, 1) := by decide +kernel
theorem dX10_isWord_67 : decode cX10_isWord 67 = .ok (.if_icmp .ne 27, 3) := by decide +kernel
theorem dX10_isWord_70 : decode cX10_isWord 70 = .ok (.aload_n 0, 1) := by decide +kernel
theorem dX10_isWord_71 : decode cX10_isWord 71 = .ok (.getfield 71, 3) := by decide +kernel
theorem dX10_isWord_74 : decode cX10_isWord 74 = .ok (.aload_n 0, 1) := by decide +kernel
theorem dX10_isWord_75 : decode cX10_isWord 75 = .ok (.getfield 74, 3) := by decide +kernel
theorem dX10_isWord_78 : decode cX10_isWord 78 = .ok (.isub, 1) := by decide +kernel
theorem dX10_isWord_79 : decode cX10_isWord 79 = .ok (.bipush 8, 2) := by decide +kernel
theorem dX10_isWord_81 : decode cX10_isWord 81 = .ok (.if_icmp .ge 13, 3) := by decide +kernel
theorem dX10_isWord_84 : decode cX10_isWord 84 = .ok (.lload_n 3, 1) := by decide +kernel
theorem dX10_isWord_85 : decode cX10_isWord 85 = .ok (.lload_n 1, 1) := by decide +kernel
theorem dX10_isWord_86 : decode cX10_isWord 86 = .ok (.lcmp, 1) := by decide +kernel
theorem dX10_isWord_87 : decode cX10_isWord 87 = .ok (.ifCond .ne 7, 3) := by decide +kernel
theorem dX10_isWord_90 : decode cX10_isWord 90 = .ok (.iconst 1, 1) := by decide +kernel
theorem dX10_isWord_91 : decode cX10_isWord 91 = .ok (.goto 4, 3) := by decide +kernel
theorem dX10_isWord_94 : decode cX10_isWord 94 = .ok (.iconst 0, 1) := by decide +kernel
theorem dX10_isWord_95 : decode cX10_isWord 95 = .ok (.ireturn, 1) := by decide +kernel
theorem dX10_number_0 : decode cX10_number 0 = .ok (.aload_n 0, 1) := by decide +kernel
theorem dX10_number_1 : decode cX10_number 1 = .ok (.getfield 68, 3) := by decide +kernel
theorem dX10_number_4 : decode cX10_number 4 = .ok (.iconst (-1), 1) := by decide +kernel
theorem dX10_number_5 : decode cX10_number 5 = .ok (.if_icmp .ne 31, 3) := by decide +kernel
theorem dX10_number_8 : decode cX10_number 8 = .ok (.aload_n 0, 1) := by decide +kernel
theorem dX10_number_9 : decode cX10_number 9 = .ok (.getfield 90, 3) := by decide +kernel
theorem dX10_number_12 : decode cX10_number 12 = .ok (.iconst 2, 1) := by decide +kernel
theorem dX10_number_13 : decode cX10_number 13 = .ok (.if_icmp .ne 15, 3) := by decide +kernel
theorem dX10_number_16 : decode cX10_number 16 = .ok (.aload_n 0, 1) := by decide +kernel
theorem dX10_number_17 : decode cX10_number 17 = .ok (.getfield 77, 3) := by decide +kernel
theorem dX10_number_20 : decode cX10_number 20 = .ok (.iload_n 1, 1) := by decide +kernel
theorem dX10_number_21 : decode cX10_number 21 = .ok (.iload_n 2, 1) := by decide +kernel
theorem dX10_number_22 : decode cX10_number 22 = .ok (.invokestatic 51, 3) := by decide +kernel
theorem dX10_number_25 : decode cX10_number 25 = .ok (.ifCond .ne 11, 3) := by decide +kernel
theorem dX10_number_28 : decode cX10_number 28 = .ok (.aload_n 0, 1) := by decide +kernel
theorem dX10_number_29 : decode cX10_number 29 = .ok (.aload_n 0, 1) := by decide +kernel
theorem dX10_number_30 : decode cX10_number 30 = .ok (.getfield 74, 3) := by decide +kernel
theorem dX10_number_33 : decode cX10_number 33 = .ok (.invokevirtual 86, 3) := by decide +kernel
theorem dX10_number_36 : decode cX10_number 36 = .ok (.aload_n 0, 1) := by decide +kernel
theorem dX10_number_37 : decode cX10_number 37 = .ok (.getfield 68, 3) := by decide +kernel
theorem dX10_number_40 : decode cX10_number 40 = .ok (.iconst (-1), 1) := by decide +kernel
theorem dX10_number_41 : decode cX10_number 41 = .ok (.if_icmp .eq 5, 3) := by decide +kernel
theorem dX10_number_44 : decode cX10_number 44 = .ok (.iconst 0, 1) := by decide +kernel
theorem dX10_number_45 : decode cX10_number 45 = .ok (.ireturn, 1) := by decide +kernel
theorem dX10_number_46 : decode cX10_number 46 = .ok (.aload_n 0, 1) := by decide +kernel
theorem dX10_number_47 : decode cX10_number 47 = .ok (.getfield 77, 3) := by decide +kernel
theorem dX10_number_50 : decode cX10_number 50 = .ok (.istore_n 3, 1) := by decide +kernel
theorem dX10_number_51 : decode cX10_number 51 = .ok (.aload_n 0, 1) := by decide +kernel
theorem dX10_number_52 : decode cX10_number 52 = .ok (.invokevirtual 97, 3) := by decide +kernel
theorem dX10_number_55 : decode cX10_number 55 = .ok (.iload_n 3, 1) := by decide +kernel
theorem dX10_number_56 : decode cX10_number 56 = .ok (.ireturn, 1) := by decide +kernel
theorem dX10_readPart_0 : decode cX10_readPart 0 = .ok (.aload_n 0, 1) := by decide +kernel
theorem dX10_readPart_1 : decode cX10_readPart 1 = .ok (.getfield 7, 3) := by decide +kernel
theorem dX10_readPart_4 : decode cX10_readPart 4 = .ok (.iconst 0, 1) := by decide +kernel
theorem dX10_readPart_5 : decode cX10_readPart 5 = .ok (.iaload, 1) := by decide +kernel
theorem dX10_readPart_6 : decode cX10_readPart 6 = .ok (.iconst 3, 1) := by decide +kernel
theorem dX10_readPart_7 : decode cX10_readPart 7 = .ok (.if_icmp .ne 11, 3) := by decide +kernel
theorem dX10_readPart_10 : decode cX10_readPart 10 = .ok (.aload_n 0, 1) := by decide +kernel
theorem dX10_readPart_11 : decode cX10_readPart 11 = .ok (.aload_n 0, 1) := by decide +kernel
theorem dX10_readPart_12 : decode cX10_readPart 12 = .ok (.getfield 74, 3) := by decide +kernel
theorem dX10_readPart_15 : decode cX10_readPart 15 = .ok (.invokevirtual 86, 3) := by decide +kernel
theorem dX10_readPart_18 : decode cX10_readPart 18 = .ok (.aload_n 0, 1) := by decide +kernel
theorem dX10_readPart_19 : decode cX10_readPart 19 = .ok (.invokevirtual 97, 3) := by decide +kernel
theorem dX10_readPart_22 : decode cX10_readPart 22 = .ok (.aload_n 0, 1) := by decide +kernel
theorem dX10_readPart_23 : decode cX10_readPart 23 = .ok (.iconst 1, 1) := by decide +kernel
theorem dX10_readPart_24 : decode cX10_readPart 24 = .ok (.bipush 30, 2) := by decide +kernel
theorem dX10_readPart_26 : decode cX10_readPart 26 = .ok (.invokevirtual 100, 3) := by decide +kernel
theorem dX10_readPart_29 : decode cX10_readPart 29 = .ok (.istore_n 1, 1) := by decide +kernel
theorem dX10_readPart_30 : decode cX10_readPart 30 = .ok (.aload_n 0, 1) := by decide +kernel
theorem dX10_readPart_31 : decode cX10_readPart 31 = .ok (.iconst 0, 1) := by decide +kernel
theorem dX10_readPart_32 : decode cX10_readPart 32 = .ok (.bipush 9, 2) := by decide +kernel
theorem dX10_readPart_34 : decode cX10_readPart 34 = .ok (.invokevirtual 100, 3) := by decide +kernel
theorem dX10_readPart_37 : decode cX10_readPart 37 = .ok (.istore_n 2, 1) := by decide +kernel
theorem dX10_readPart_38 : decode cX10_readPart 38 = .ok (.aload_n 0, 1) := by decide +kernel
theorem dX10_readPart_39 : decode cX10_readPart 39 = .ok (.iconst 1, 1) := by decide +kernel
theorem dX10_readPart_40 : decode cX10_readPart 40 = .ok (.bipush 9, 2) := by decide +kernel
theorem dX10_readPart_42 : decode cX10_readPart 42 = .ok (.invokevirtual 100, 3) := by decide +kernel
theorem dX10_readPart_45 : decode cX10_readPart 45 = .ok (.istore_n 3, 1) := by decide +kernel
theorem dX10_readPart_46 : decode cX10_readPart 46 = .ok (.aload_n 0, 1) := by decide +kernel
theorem dX10_readPart_47 : decode cX10_readPart 47 = .ok (.getfield 68, 3) := by decide +kernel
theorem dX10_readPart_50 : decode cX10_readPart 50 = .ok (.iconst (-1), 1) := by decide +kernel
theorem dX10_readPart_51 : decode cX10_readPart 51 = .ok (.if_icmp .ne 58, 3) := by decide +kernel
theorem dX10_readPart_54 : decode cX10_readPart 54 = .ok (.aload_n 0, 1) := by decide +kernel
theorem dX10_readPart_55 : decode cX10_readPart 55 = .ok (.getfield 7, 3) := by decide +kernel
theorem dX10_readPart_58 : decode cX10_readPart 58 = .ok (.bipush 20, 2) := by decide +kernel
theorem dX10_readPart_60 : decode cX10_readPart 60 = .ok (.aload_n 0, 1) := by decide +kernel
theorem dX10_readPart_61 : decode cX10_readPart 61 = .ok (.getfield 7, 3) := by decide +kernel
theorem dX10_readPart_64 : decode cX10_readPart 64 = .ok (.iconst 0, 1) := by decide +kernel
theorem dX10_readPart_65 : decode cX10_readPart 65 = .ok (.iaload, 1) := by decide +kernel
theorem dX10_readPart_66 : decode cX10_readPart 66 = .ok (.iadd, 1) := by decide +kernel
theorem dX10_readPart_67 : decode cX10_readPart 67 = .ok (.iload_n 1, 1) := by decide +kernel
theorem dX10_readPart_68 : decode cX10_readPart 68 = .ok (.iastore, 1) := by decide +kernel
theorem dX10_readPart_69 : decode cX10_readPart 69 = .ok (.aload_n 0, 1) := by decide +kernel
theorem dX10_readPart_70 : decode cX10_readPart 70 = .ok (.getfield 7, 3) := by decide +kernel
theorem dX10_readPart_73 : decode cX10_readPart 73 = .ok (.bipush 23, 2) := by decide +kernel
theorem dX10_readPart_75 : decode cX10_readPart 75 = .ok (.aload_n 0, 1) := by decide +kernel
theorem dX10_readPart_76 : decode cX10_readPart 76 = .ok (.getfield 7, 3) := by decide +kernel
theorem dX10_readPart_79 : decode cX10_readPart 79 = .ok (.iconst 0, 1) := by decide +kernel
theorem dX10_readPart_80 : decode cX10_readPart 80 = .ok (.iaload, 1) := by decide +kernel
theorem dX10_readPart_81 : decode cX10_readPart 81 = .ok (.iadd, 1) := by decide +kernel
theorem dX10_readPart_82 : decode cX10_readPart 82 = .ok (.iload_n 2, 1) := by decide +kernel
theorem dX10_readPart_83 : decode cX10_readPart 83 = .ok (.iastore, 1) := by decide +kernel
theorem dX10_readPart_84 : decode cX10_readPart 84 = .ok (.aload_n 0, 1) := by decide +kernel
theorem dX10_readPart_85 : decode cX10_readPart 85 = .ok (.getfield 7, 3) := by decide +kernel
theorem dX10_readPart_88 : decode cX10_readPart 88 = .ok (.bipush 26, 2) := by decide +kernel
theorem dX10_readPart_90 : decode cX10_readPart 90 = .ok (.aload_n 0, 1) := by decide +kernel
theorem dX10_readPart_91 : decode cX10_readPart 91 = .ok (.getfield 7, 3) := by decide +kernel
theorem dX10_readPart_94 : decode cX10_readPart 94 = .ok (.iconst 0, 1) := by decide +kernel
theorem dX10_readPart_95 : decode cX10_readPart 95 = .ok (.iaload, 1) := by decide +kernel
theorem dX10_readPart_96 : decode cX10_readPart 96 = .ok (.iadd, 1) := by decide +kernel
theorem dX10_readPart_97 : decode cX10_readPart 97 = .ok (.iload_n 3, 1) := by decide +kernel
theorem dX10_readPart_98 : decode cX10_readPart 98 = .ok (.iastore, 1) := by decide +kernel
theorem dX10_readPart_99 : decode cX10_readPart 99 = .ok (.aload_n 0, 1) := by decide +kernel
theorem dX10_readPart_100 : decode cX10_readPart 100 = .ok (.getfield 7, 3) := by decide +kernel
theorem dX10_readPart_103 : decode cX10_readPart 103 = .ok (.iconst 0, 1) := by decide +kernel
theorem dX10_readPart_104 : decode cX10_readPart 104 = .ok (.dup2, 1) := by decide +kernel
theorem dX10_readPart_105 : decode cX10_readPart 105 = .ok (.iaload, 1) := by decide +kernel
theorem dX10_readPart_106 : decode cX10_readPart 106 = .ok (.iconst 1, 1) := by decide +kernel
theorem dX10_readPart_107 : decode cX10_readPart 107 = .ok (.iadd, 1) := by decide +kernel
theorem dX10_readPart_108 : decode cX10_readPart 108 = .ok (.iastore, 1) := by decide +kernel
theorem dX10_readPart_109 : decode cX10_readPart 109 = .ok (.return_, 1) := by decide +kernel
theorem dX10_readBase_0 : decode cX10_readBase 0 = .ok (.aload_n 0, 1) := by decide +kernel
theorem dX10_readBase_1 : decode cX10_readBase 1 = .ok (.getfield 7, 3) := by decide +kernel
theorem dX10_readBase_4 : decode cX10_readBase 4 = .ok (.iconst 1, 1) := by decide +kernel
theorem dX10_readBase_5 : decode cX10_readBase 5 = .ok (.iaload, 1) := by decide +kernel
theorem dX10_readBase_6 : decode cX10_readBase 6 = .ok (.iconst 3, 1) := by decide +kernel
theorem dX10_readBase_7 : decode cX10_readBase 7 = .ok (.if_icmp .ne 11, 3) := by decide +kernel
theorem dX10_readBase_10 : decode cX10_readBase 10 = .ok (.aload_n 0, 1) := by decide +kernel
theorem dX10_readBase_11 : decode cX10_readBase 11 = .ok (.aload_n 0, 1) := by decide +kernel
theorem dX10_readBase_12 : decode cX10_readBase 12 = .ok (.getfield 74, 3) := by decide +kernel
theorem dX10_readBase_15 : decode cX10_readBase 15 = .ok (.invokevirtual 86, 3) := by decide +kernel
theorem dX10_readBase_18 : decode cX10_readBase 18 = .ok (.aload_n 0, 1) := by decide +kernel
theorem dX10_readBase_19 : decode cX10_readBase 19 = .ok (.invokevirtual 97, 3) := by decide +kernel
theorem dX10_readBase_22 : decode cX10_readBase 22 = .ok (.aload_n 0, 1) := by decide +kernel
theorem dX10_readBase_23 : decode cX10_readBase 23 = .ok (.iconst 1, 1) := by decide +kernel
theorem dX10_readBase_24 : decode cX10_readBase 24 = .ok (.bipush 9, 2) := by decide +kernel
theorem dX10_readBase_26 : decode cX10_readBase 26 = .ok (.invokevirtual 100, 3) := by decide +kernel
theorem dX10_readBase_29 : decode cX10_readBase 29 = .ok (.istore_n 1, 1) := by decide +kernel
theorem dX10_readBase_30 : decode cX10_readBase 30 = .ok (.aload_n 0, 1) := by decide +kernel
theorem dX10_readBase_31 : decode cX10_readBase 31 = .ok (.getfield 68, 3) := by decide +kernel
theorem dX10_readBase_34 : decode cX10_readBase 34 = .ok (.iconst (-1), 1) := by decide +kernel
theorem dX10_readBase_35 : decode cX10_readBase 35 = .ok (.if_icmp .ne 28, 3) := by decide +kernel
theorem dX10_readBase_38 : decode cX10_readBase 38 = .ok (.aload_n 0, 1) := by decide +kernel
theorem dX10_readBase_39 : decode cX10_readBase 39 = .ok (.getfield 7, 3) := by decide +kernel
theorem dX10_readBase_42 : decode cX10_readBase 42 = .ok (.bipush 29, 2) := by decide +kernel
theorem dX10_readBase_44 : decode cX10_readBase 44 = .ok (.aload_n 0, 1) := by decide +kernel
theorem dX10_readBase_45 : decode cX10_readBase 45 = .ok (.getfield 7, 3) := by decide +kernel
theorem dX10_readBase_48 : decode cX10_readBase 48 = .ok (.iconst 1, 1) := by decide +kernel
theorem dX10_readBase_49 : decode cX10_readBase 49 = .ok (.iaload, 1) := by decide +kernel
theorem dX10_readBase_50 : decode cX10_readBase 50 = .ok (.iadd, 1) := by decide +kernel
theorem dX10_readBase_51 : decode cX10_readBase 51 = .ok (.iload_n 1, 1) := by decide +kernel
theorem dX10_readBase_52 : decode cX10_readBase 52 = .ok (.iastore, 1) := by decide +kernel
theorem dX10_readBase_53 : decode cX10_readBase 53 = .ok (.aload_n 0, 1) := by decide +kernel
theorem dX10_readBase_54 : decode cX10_readBase 54 = .ok (.getfield 7, 3) := by decide +kernel
theorem dX10_readBase_57 : decode cX10_readBase 57 = .ok (.iconst 1, 1) := by decide +kernel
theorem dX10_readBase_58 : decode cX10_readBase 58 = .ok (.dup2, 1) := by decide +kernel
theorem dX10_readBase_59 : decode cX10_readBase 59 = .ok (.iaload, 1) := by decide +kernel
theorem dX10_readBase_60 : decode cX10_readBase 60 = .ok (.iconst 1, 1) := by decide +kernel
theorem dX10_readBase_61 : decode cX10_readBase 61 = .ok (.iadd, 1) := by decide +kernel
theorem dX10_readBase_62 : decode cX10_readBase 62 = .ok (.iastore, 1) := by decide +kernel
theorem dX10_readBase_63 : decode cX10_readBase 63 = .ok (.return_, 1) := by decide +kernel
theorem dX10_readCell_0 : decode cX10_readCell 0 = .ok (.aload_n 0, 1) := by decide +kernel
theorem dX10_readCell_1 : decode cX10_readCell 1 = .ok (.invokevirtual 97, 3) := by decide +kernel
theorem dX10_readCell_4 : decode cX10_readCell 4 = .ok (.aload_n 0, 1) := by decide +kernel
theorem dX10_readCell_5 : decode cX10_readCell 5 = .ok (.iconst 0, 1) := by decide +kernel
theorem dX10_readCell_6 : decode cX10_readCell 6 = .ok (.aload_n 0, 1) := by decide +kernel
theorem dX10_readCell_7 : decode cX10_readCell 7 = .ok (.getfield 7, 3) := by decide +kernel
theorem dX10_readCell_10 : decode cX10_readCell 10 = .ok (.iconst 1, 1) := by decide +kernel
theorem dX10_readCell_11 : decode cX10_readCell 11 = .ok (.iaload, 1) := by decide +kernel
theorem dX10_readCell_12 : decode cX10_readCell 12 = .ok (.iconst 1, 1) := by decide +kernel
theorem dX10_readCell_13 : decode cX10_readCell 13 = .ok (.isub, 1) := by decide +kernel
theorem dX10_readCell_14 : decode cX10_readCell 14 = .ok (.invokevirtual 100, 3) := by decide +kernel
theorem dX10_readCell_17 : decode cX10_readCell 17 = .ok (.istore_n 1, 1) := by decide +kernel
theorem dX10_readCell_18 : decode cX10_readCell 18 = .ok (.aload_n 0, 1) := by decide +kernel
theorem dX10_readCell_19 : decode cX10_readCell 19 = .ok (.iconst 0, 1) := by decide +kernel
theorem dX10_readCell_20 : decode cX10_readCell 20 = .ok (.aload_n 0, 1) := by decide +kernel
theorem dX10_readCell_21 : decode cX10_readCell 21 = .ok (.getfield 7, 3) := by decide +kernel
theorem dX10_readCell_24 : decode cX10_readCell 24 = .ok (.iconst 0, 1) := by decide +kernel
theorem dX10_readCell_25 : decode cX10_readCell 25 = .ok (.iaload, 1) := by decide +kernel
theorem dX10_readCell_26 : decode cX10_readCell 26 = .ok (.iconst 1, 1) := by decide +kernel
theorem dX10_readCell_27 : decode cX10_readCell 27 = .ok (.isub, 1) := by decide +kernel
theorem dX10_readCell_28 : decode cX10_readCell 28 = .ok (.invokevirtual 100, 3) := by decide +kernel
theorem dX10_readCell_31 : decode cX10_readCell 31 = .ok (.istore_n 2, 1) := by decide +kernel
theorem dX10_readCell_32 : decode cX10_readCell 32 = .ok (.aload_n 0, 1) := by decide +kernel
theorem dX10_readCell_33 : decode cX10_readCell 33 = .ok (.iconst 0, 1) := by decide +kernel
theorem dX10_readCell_34 : decode cX10_readCell 34 = .ok (.bipush 8, 2) := by decide +kernel
theorem dX10_readCell_36 : decode cX10_readCell 36 = .ok (.invokevirtual 100, 3) := by decide +kernel
theorem dX10_readCell_39 : decode cX10_readCell 39 = .ok (.istore_n 3, 1) := by decide +kernel
theorem dX10_readCell_40 : decode cX10_readCell 40 = .ok (.aload_n 0, 1) := by decide +kernel
theorem dX10_readCell_41 : decode cX10_readCell 41 = .ok (.iconst 0, 1) := by decide +kernel
theorem dX10_readCell_42 : decode cX10_readCell 42 = .ok (.bipush 12, 2) := by decide +kernel
theorem dX10_readCell_44 : decode cX10_readCell 44 = .ok (.invokevirtual 100, 3) := by decide +kernel
theorem dX10_readCell_47 : decode cX10_readCell 47 = .ok (.istore 4, 2) := by decide +kernel
theorem dX10_readCell_49 : decode cX10_readCell 49 = .ok (.aload_n 0, 1) := by decide +kernel
theorem dX10_readCell_50 : decode cX10_readCell 50 = .ok (.iconst 0, 1) := by decide +kernel
theorem dX10_readCell_51 : decode cX10_readCell 51 = .ok (.bipush 9, 2) := by decide +kernel
theorem dX10_readCell_53 : decode cX10_readCell 53 = .ok (.invokevirtual 100, 3) := by decide +kernel
theorem dX10_readCell_56 : decode cX10_readCell 56 = .ok (.istore 5, 2) := by decide +kernel
theorem dX10_readCell_58 : decode cX10_readCell 58 = .ok (.aload_n 0, 1) := by decide +kernel
theorem dX10_readCell_59 : decode cX10_readCell 59 = .ok (.getfield 68, 3) := by decide +kernel
theorem dX10_readCell_62 : decode cX10_readCell 62 = .ok (.iconst (-1), 1) := by decide +kernel
theorem dX10_readCell_63 : decode cX10_readCell 63 = .ok (.if_icmp .ne 47, 3) := by decide +kernel
theorem dX10_readCell_66 : decode cX10_readCell 66 = .ok (.aload_n 0, 1) := by decide +kernel
theorem dX10_readCell_67 : decode cX10_readCell 67 = .ok (.getfield 7, 3) := by decide +kernel
theorem dX10_readCell_70 : decode cX10_readCell 70 = .ok (.bipush 32, 2) := by decide +kernel
theorem dX10_readCell_72 : decode cX10_readCell 72 = .ok (.iload_n 1, 1) := by decide +kernel
theorem dX10_readCell_73 : decode cX10_readCell 73 = .ok (.iload_n 2, 1) := by decide +kernel
theorem dX10_readCell_74 : decode cX10_readCell 74 = .ok (.invokestatic 104, 3) := by decide +kernel
theorem dX10_readCell_77 : decode cX10_readCell 77 = .ok (.iadd, 1) := by decide +kernel
theorem dX10_readCell_78 : decode cX10_readCell 78 = .ok (.iload_n 3, 1) := by decide +kernel
theorem dX10_readCell_79 : decode cX10_readCell 79 = .ok (.iastore, 1) := by decide +kernel
theorem dX10_readCell_80 : decode cX10_readCell 80 = .ok (.aload_n 0, 1) := by decide +kernel
theorem dX10_readCell_81 : decode cX10_readCell 81 = .ok (.getfield 7, 3) := by decide +kernel
theorem dX10_readCell_84 : decode cX10_readCell 84 = .ok (.bipush 41, 2) := by decide +kernel
theorem dX10_readCell_86 : decode cX10_readCell 86 = .ok (.iload_n 1, 1) := by decide +kernel
theorem dX10_readCell_87 : decode cX10_readCell 87 = .ok (.iload_n 2, 1) := by decide +kernel
theorem dX10_readCell_88 : decode cX10_readCell 88 = .ok (.invokestatic 104, 3) := by decide +kernel
theorem dX10_readCell_91 : decode cX10_readCell 91 = .ok (.iadd, 1) := by decide +kernel
theorem dX10_readCell_92 : decode cX10_readCell 92 = .ok (.iload 4, 2) := by decide +kernel
theorem dX10_readCell_94 : decode cX10_readCell 94 = .ok (.iastore, 1) := by decide +kernel
theorem dX10_readCell_95 : decode cX10_readCell 95 = .ok (.aload_n 0, 1) := by decide +kernel
theorem dX10_readCell_96 : decode cX10_readCell 96 = .ok (.getfield 7, 3) := by decide +kernel
theorem dX10_readCell_99 : decode cX10_readCell 99 = .ok (.bipush 50, 2) := by decide +kernel
theorem dX10_readCell_101 : decode cX10_readCell 101 = .ok (.iload_n 1, 1) := by decide +kernel
theorem dX10_readCell_102 : decode cX10_readCell 102 = .ok (.iload_n 2, 1) := by decide +kernel
theorem dX10_readCell_103 : decode cX10_readCell 103 = .ok (.invokestatic 104, 3) := by decide +kernel
theorem dX10_readCell_106 : decode cX10_readCell 106 = .ok (.iadd, 1) := by decide +kernel
theorem dX10_readCell_107 : decode cX10_readCell 107 = .ok (.iload 5, 2) := by decide +kernel
theorem dX10_readCell_109 : decode cX10_readCell 109 = .ok (.iastore, 1) := by decide +kernel
theorem dX10_readCell_110 : decode cX10_readCell 110 = .ok (.return_, 1) := by decide +kernel
theorem dX10_readWorks_0 : decode cX10_readWorks 0 = .ok (.aload_n 0, 1) := by decide +kernel
theorem dX10_readWorks_1 : decode cX10_readWorks 1 = .ok (.invokevirtual 97, 3) := by decide +kernel
theorem dX10_readWorks_4 : decode cX10_readWorks 4 = .ok (.aload_n 0, 1) := by decide +kernel
theorem dX10_readWorks_5 : decode cX10_readWorks 5 = .ok (.iconst 0, 1) := by decide +kernel
theorem dX10_readWorks_6 : decode cX10_readWorks 6 = .ok (.aload_n 0, 1) := by decide +kernel
theorem dX10_readWorks_7 : decode cX10_readWorks 7 = .ok (.getfield 7, 3) := by decide +kernel
theorem dX10_readWorks_10 : decode cX10_readWorks 10 = .ok (.iconst 0, 1) := by decide +kernel
theorem dX10_readWorks_11 : decode cX10_readWorks 11 = .ok (.iaload, 1) := by decide +kernel
theorem dX10_readWorks_12 : decode cX10_readWorks 12 = .ok (.iconst 1, 1) := by decide +kernel
theorem dX10_readWorks_13 : decode cX10_readWorks 13 = .ok (.isub, 1) := by decide +kernel
theorem dX10_readWorks_14 : decode cX10_readWorks 14 = .ok (.invokevirtual 100, 3) := by decide +kernel
theorem dX10_readWorks_17 : decode cX10_readWorks 17 = .ok (.istore_n 1, 1) := by decide +kernel
theorem dX10_readWorks_18 : decode cX10_readWorks 18 = .ok (.aload_n 0, 1) := by decide +kernel
theorem dX10_readWorks_19 : decode cX10_readWorks 19 = .ok (.iconst 0, 1) := by decide +kernel
theorem dX10_readWorks_20 : decode cX10_readWorks 20 = .ok (.bipush 9, 2) := by decide +kernel
theorem dX10_readWorks_22 : decode cX10_readWorks 22 = .ok (.invokevirtual 100, 3) := by decide +kernel
theorem dX10_readWorks_25 : decode cX10_readWorks 25 = .ok (.istore_n 2, 1) := by decide +kernel
theorem dX10_readWorks_26 : decode cX10_readWorks 26 = .ok (.aload_n 0, 1) := by decide +kernel
theorem dX10_readWorks_27 : decode cX10_readWorks 27 = .ok (.getfield 68, 3) := by decide +kernel
theorem dX10_readWorks_30 : decode cX10_readWorks 30 = .ok (.iconst (-1), 1) := by decide +kernel
theorem dX10_readWorks_31 : decode cX10_readWorks 31 = .ok (.if_icmp .ne 13, 3) := by decide +kernel
theorem dX10_readWorks_34 : decode cX10_readWorks 34 = .ok (.aload_n 0, 1) := by decide +kernel
theorem dX10_readWorks_35 : decode cX10_readWorks 35 = .ok (.getfield 7, 3) := by decide +kernel
theorem dX10_readWorks_38 : decode cX10_readWorks 38 = .ok (.bipush 59, 2) := by decide +kernel
theorem dX10_readWorks_40 : decode cX10_readWorks 40 = .ok (.iload_n 1, 1) := by decide +kernel
theorem dX10_readWorks_41 : decode cX10_readWorks 41 = .ok (.iadd, 1) := by decide +kernel
theorem dX10_readWorks_42 : decode cX10_readWorks 42 = .ok (.iload_n 2, 1) := by decide +kernel
theorem dX10_readWorks_43 : decode cX10_readWorks 43 = .ok (.iastore, 1) := by decide +kernel
theorem dX10_readWorks_44 : decode cX10_readWorks 44 = .ok (.return_, 1) := by decide +kernel
theorem dX10_readOne_0 : decode cX10_readOne 0 = .ok (.aload_n 0, 1) := by decide +kernel
theorem dX10_readOne_1 : decode cX10_readOne 1 = .ok (.invokevirtual 97, 3) := by decide +kernel
theorem dX10_readOne_4 : decode cX10_readOne 4 = .ok (.aload_n 0, 1) := by decide +kernel
theorem dX10_readOne_5 : decode cX10_readOne 5 = .ok (.iload_n 2, 1) := by decide +kernel
theorem dX10_readOne_6 : decode cX10_readOne 6 = .ok (.iload_n 3, 1) := by decide +kernel
theorem dX10_readOne_7 : decode cX10_readOne 7 = .ok (.invokevirtual 100, 3) := by decide +kernel
theorem dX10_readOne_10 : decode cX10_readOne 10 = .ok (.istore 4, 2) := by decide +kernel
theorem dX10_readOne_12 : decode cX10_readOne 12 = .ok (.aload_n 0, 1) := by decide +kernel
theorem dX10_readOne_13 : decode cX10_readOne 13 = .ok (.getfield 7, 3) := by decide +kernel
theorem dX10_readOne_16 : decode cX10_readOne 16 = .ok (.iload_n 1, 1) := by decide +kernel
theorem dX10_readOne_17 : decode cX10_readOne 17 = .ok (.aload_n 0, 1) := by decide +kernel
theorem dX10_readOne_18 : decode cX10_readOne 18 = .ok (.getfield 68, 3) := by decide +kernel
theorem dX10_readOne_21 : decode cX10_readOne 21 = .ok (.iconst (-1), 1) := by decide +kernel
theorem dX10_readOne_22 : decode cX10_readOne 22 = .ok (.if_icmp .ne 8, 3) := by decide +kernel
theorem dX10_readOne_25 : decode cX10_readOne 25 = .ok (.iload 4, 2) := by decide +kernel
theorem dX10_readOne_27 : decode cX10_readOne 27 = .ok (.goto 9, 3) := by decide +kernel
theorem dX10_readOne_30 : decode cX10_readOne 30 = .ok (.aload_n 0, 1) := by decide +kernel
theorem dX10_readOne_31 : decode cX10_readOne 31 = .ok (.getfield 7, 3) := by decide +kernel
theorem dX10_readOne_34 : decode cX10_readOne 34 = .ok (.iload_n 1, 1) := by decide +kernel
theorem dX10_readOne_35 : decode cX10_readOne 35 = .ok (.iaload, 1) := by decide +kernel
theorem dX10_readOne_36 : decode cX10_readOne 36 = .ok (.iastore, 1) := by decide +kernel
theorem dX10_readOne_37 : decode cX10_readOne 37 = .ok (.return_, 1) := by decide +kernel
theorem dX10_readLine_0 : decode cX10_readLine 0 = .ok (.aload_n 0, 1) := by decide +kernel
theorem dX10_readLine_1 : decode cX10_readLine 1 = .ok (.ldc2_w 107, 3) := by decide +kernel
theorem dX10_readLine_4 : decode cX10_readLine 4 = .ok (.invokevirtual 109, 3) := by decide +kernel
theorem dX10_readLine_7 : decode cX10_readLine 7 = .ok (.ifCond .eq 13, 3) := by decide +kernel
theorem dX10_readLine_10 : decode cX10_readLine 10 = .ok (.aload_n 0, 1) := by decide +kernel
theorem dX10_readLine_11 : decode cX10_readLine 11 = .ok (.iconst 2, 1) := by decide +kernel
theorem dX10_readLine_12 : decode cX10_readLine 12 = .ok (.iconst 1, 1) := by decide +kernel
theorem dX10_readLine_13 : decode cX10_readLine 13 = .ok (.iconst 3, 1) := by decide +kernel
theorem dX10_readLine_14 : decode cX10_readLine 14 = .ok (.invokevirtual 113, 3) := by decide +kernel
theorem dX10_readLine_17 : decode cX10_readLine 17 = .ok (.goto 119, 3) := by decide +kernel
theorem dX10_readLine_20 : decode cX10_readLine 20 = .ok (.aload_n 0, 1) := by decide +kernel
theorem dX10_readLine_21 : decode cX10_readLine 21 = .ok (.ldc2_w 117, 3) := by decide +kernel
theorem dX10_readLine_24 : decode cX10_readLine 24 = .ok (.invokevirtual 109, 3) := by decide +kernel
theorem dX10_readLine_27 : decode cX10_readLine 27 = .ok (.ifCond .eq 13, 3) := by decide +kernel
theorem dX10_readLine_30 : decode cX10_readLine 30 = .ok (.aload_n 0, 1) := by decide +kernel
theorem dX10_readLine_31 : decode cX10_readLine 31 = .ok (.iconst 3, 1) := by decide +kernel
theorem dX10_readLine_32 : decode cX10_readLine 32 = .ok (.iconst 0, 1) := by decide +kernel
theorem dX10_readLine_33 : decode cX10_readLine 33 = .ok (.iconst 4, 1) := by decide +kernel
theorem dX10_readLine_34 : decode cX10_readLine 34 = .ok (.invokevirtual 113, 3) := by decide +kernel
theorem dX10_readLine_37 : decode cX10_readLine 37 = .ok (.goto 99, 3) := by decide +kernel
theorem dX10_readLine_40 : decode cX10_readLine 40 = .ok (.aload_n 0, 1) := by decide +kernel
theorem dX10_readLine_41 : decode cX10_readLine 41 = .ok (.ldc2_w 119, 3) := by decide +kernel
theorem dX10_readLine_44 : decode cX10_readLine 44 = .ok (.invokevirtual 109, 3) := by decide +kernel
theorem dX10_readLine_47 : decode cX10_readLine 47 = .ok (.ifCond .eq 13, 3) := by decide +kernel
theorem dX10_readLine_50 : decode cX10_readLine 50 = .ok (.aload_n 0, 1) := by decide +kernel
theorem dX10_readLine_51 : decode cX10_readLine 51 = .ok (.iconst 4, 1) := by decide +kernel
theorem dX10_readLine_52 : decode cX10_readLine 52 = .ok (.iconst 0, 1) := by decide +kernel
theorem dX10_readLine_53 : decode cX10_readLine 53 = .ok (.iconst 1, 1) := by decide +kernel
theorem dX10_readLine_54 : decode cX10_readLine 54 = .ok (.invokevirtual 113, 3) := by decide +kernel
theorem dX10_readLine_57 : decode cX10_readLine 57 = .ok (.goto 79, 3) := by decide +kernel
theorem dX10_readLine_60 : decode cX10_readLine 60 = .ok (.aload_n 0, 1) := by decide +kernel
theorem dX10_readLine_61 : decode cX10_readLine 61 = .ok (.ldc2_w 121, 3) := by decide +kernel
theorem dX10_readLine_64 : decode cX10_readLine 64 = .ok (.invokevirtual 109, 3) := by decide +kernel
theorem dX10_readLine_67 : decode cX10_readLine 67 = .ok (.ifCond .eq 10, 3) := by decide +kernel
theorem dX10_readLine_70 : decode cX10_readLine 70 = .ok (.aload_n 0, 1) := by decide +kernel
theorem dX10_readLine_71 : decode cX10_readLine 71 = .ok (.invokevirtual 123, 3) := by decide +kernel
theorem dX10_readLine_74 : decode cX10_readLine 74 = .ok (.goto 62, 3) := by decide +kernel
theorem dX10_readLine_77 : decode cX10_readLine 77 = .ok (.aload_n 0, 1) := by decide +kernel
theorem dX10_readLine_78 : decode cX10_readLine 78 = .ok (.ldc2_w 126, 3) := by decide +kernel
theorem dX10_readLine_81 : decode cX10_readLine 81 = .ok (.invokevirtual 109, 3) := by decide +kernel
theorem dX10_readLine_84 : decode cX10_readLine 84 = .ok (.ifCond .eq 10, 3) := by decide +kernel
theorem dX10_readLine_87 : decode cX10_readLine 87 = .ok (.aload_n 0, 1) := by decide +kernel
theorem dX10_readLine_88 : decode cX10_readLine 88 = .ok (.invokevirtual 128, 3) := by decide +kernel
theorem dX10_readLine_91 : decode cX10_readLine 91 = .ok (.goto 45, 3) := by decide +kernel
theorem dX10_readLine_94 : decode cX10_readLine 94 = .ok (.aload_n 0, 1) := by decide +kernel
theorem dX10_readLine_95 : decode cX10_readLine 95 = .ok (.ldc2_w 131, 3) := by decide +kernel
theorem dX10_readLine_98 : decode cX10_readLine 98 = .ok (.invokevirtual 109, 3) := by decide +kernel
theorem dX10_readLine_101 : decode cX10_readLine 101 = .ok (.ifCond .eq 10, 3) := by decide +kernel
theorem dX10_readLine_104 : decode cX10_readLine 104 = .ok (.aload_n 0, 1) := by decide +kernel
theorem dX10_readLine_105 : decode cX10_readLine 105 = .ok (.invokevirtual 133, 3) := by decide +kernel
theorem dX10_readLine_108 : decode cX10_readLine 108 = .ok (.goto 28, 3) := by decide +kernel
theorem dX10_readLine_111 : decode cX10_readLine 111 = .ok (.aload_n 0, 1) := by decide +kernel
theorem dX10_readLine_112 : decode cX10_readLine 112 = .ok (.ldc2_w 136, 3) := by decide +kernel
theorem dX10_readLine_115 : decode cX10_readLine 115 = .ok (.invokevirtual 109, 3) := by decide +kernel
theorem dX10_readLine_118 : decode cX10_readLine 118 = .ok (.ifCond .eq 10, 3) := by decide +kernel
theorem dX10_readLine_121 : decode cX10_readLine 121 = .ok (.aload_n 0, 1) := by decide +kernel
theorem dX10_readLine_122 : decode cX10_readLine 122 = .ok (.invokevirtual 138, 3) := by decide +kernel
theorem dX10_readLine_125 : decode cX10_readLine 125 = .ok (.goto 11, 3) := by decide +kernel
theorem dX10_readLine_128 : decode cX10_readLine 128 = .ok (.aload_n 0, 1) := by decide +kernel
theorem dX10_readLine_129 : decode cX10_readLine 129 = .ok (.aload_n 0, 1) := by decide +kernel
theorem dX10_readLine_130 : decode cX10_readLine 130 = .ok (.getfield 74, 3) := by decide +kernel
theorem dX10_readLine_133 : decode cX10_readLine 133 = .ok (.invokevirtual 86, 3) := by decide +kernel
theorem dX10_readLine_136 : decode cX10_readLine 136 = .ok (.aload_n 0, 1) := by decide +kernel
theorem dX10_readLine_137 : decode cX10_readLine 137 = .ok (.getfield 68, 3) := by decide +kernel
theorem dX10_readLine_140 : decode cX10_readLine 140 = .ok (.iconst (-1), 1) := by decide +kernel
theorem dX10_readLine_141 : decode cX10_readLine 141 = .ok (.if_icmp .ne 28, 3) := by decide +kernel
theorem dX10_readLine_144 : decode cX10_readLine 144 = .ok (.aload_n 0, 1) := by decide +kernel
theorem dX10_readLine_145 : decode cX10_readLine 145 = .ok (.getfield 90, 3) := by decide +kernel
theorem dX10_readLine_148 : decode cX10_readLine 148 = .ok (.iconst 3, 1) := by decide +kernel
theorem dX10_readLine_149 : decode cX10_readLine 149 = .ok (.if_icmp .ne 12, 3) := by decide +kernel
theorem dX10_readLine_152 : decode cX10_readLine 152 = .ok (.aload_n 0, 1) := by decide +kernel
theorem dX10_readLine_153 : decode cX10_readLine 153 = .ok (.getfield 77, 3) := by decide +kernel
theorem dX10_readLine_156 : decode cX10_readLine 156 = .ok (.bipush 59, 2) := by decide +kernel
theorem dX10_readLine_158 : decode cX10_readLine 158 = .ok (.if_icmp .eq 11, 3) := by decide +kernel
theorem dX10_readLine_161 : decode cX10_readLine 161 = .ok (.aload_n 0, 1) := by decide +kernel
theorem dX10_readLine_162 : decode cX10_readLine 162 = .ok (.aload_n 0, 1) := by decide +kernel
theorem dX10_readLine_163 : decode cX10_readLine 163 = .ok (.getfield 74, 3) := by decide +kernel
theorem dX10_readLine_166 : decode cX10_readLine 166 = .ok (.invokevirtual 86, 3) := by decide +kernel
theorem dX10_readLine_169 : decode cX10_readLine 169 = .ok (.aload_n 0, 1) := by decide +kernel
theorem dX10_readLine_170 : decode cX10_readLine 170 = .ok (.getfield 68, 3) := by decide +kernel
theorem dX10_readLine_173 : decode cX10_readLine 173 = .ok (.iconst (-1), 1) := by decide +kernel
theorem dX10_readLine_174 : decode cX10_readLine 174 = .ok (.if_icmp .ne 7, 3) := by decide +kernel
theorem dX10_readLine_177 : decode cX10_readLine 177 = .ok (.aload_n 0, 1) := by decide +kernel
theorem dX10_readLine_178 : decode cX10_readLine 178 = .ok (.invokevirtual 97, 3) := by decide +kernel
theorem dX10_readLine_181 : decode cX10_readLine 181 = .ok (.return_, 1) := by decide +kernel
theorem dX10_text_0 : decode cX10_text 0 = .ok (.aload_n 0, 1) := by decide +kernel
theorem dX10_text_1 : decode cX10_text 1 = .ok (.aload_n 0, 1) := by decide +kernel
theorem dX10_text_2 : decode cX10_text 2 = .ok (.getfield 62, 3) := by decide +kernel
theorem dX10_text_5 : decode cX10_text 5 = .ok (.putfield 65, 3) := by decide +kernel
theorem dX10_text_8 : decode cX10_text 8 = .ok (.aload_n 0, 1) := by decide +kernel
theorem dX10_text_9 : decode cX10_text 9 = .ok (.iconst 0, 1) := by decide +kernel
theorem dX10_text_10 : decode cX10_text 10 = .ok (.putfield 62, 3) := by decide +kernel
theorem dX10_text_13 : decode cX10_text 13 = .ok (.aload_n 0, 1) := by decide +kernel
theorem dX10_text_14 : decode cX10_text 14 = .ok (.iconst 0, 1) := by decide +kernel
theorem dX10_text_15 : decode cX10_text 15 = .ok (.putfield 71, 3) := by decide +kernel
theorem dX10_text_18 : decode cX10_text 18 = .ok (.aload_n 0, 1) := by decide +kernel
theorem dX10_text_19 : decode cX10_text 19 = .ok (.iconst (-1), 1) := by decide +kernel
theorem dX10_text_20 : decode cX10_text 20 = .ok (.putfield 68, 3) := by decide +kernel
theorem dX10_text_23 : decode cX10_text 23 = .ok (.aload_n 0, 1) := by decide +kernel
theorem dX10_text_24 : decode cX10_text 24 = .ok (.invokevirtual 141, 3) := by decide +kernel
theorem dX10_text_27 : decode cX10_text 27 = .ok (.iconst 0, 1) := by decide +kernel
theorem dX10_text_28 : decode cX10_text 28 = .ok (.istore_n 1, 1) := by decide +kernel
theorem dX10_text_29 : decode cX10_text 29 = .ok (.iload_n 1, 1) := by decide +kernel
theorem dX10_text_30 : decode cX10_text 30 = .ok (.sipush 2212, 3) := by decide +kernel
theorem dX10_text_33 : decode cX10_text 33 = .ok (.if_icmp .ge 16, 3) := by decide +kernel
theorem dX10_text_36 : decode cX10_text 36 = .ok (.aload_n 0, 1) := by decide +kernel
theorem dX10_text_37 : decode cX10_text 37 = .ok (.getfield 7, 3) := by decide +kernel
theorem dX10_text_40 : decode cX10_text 40 = .ok (.iload_n 1, 1) := by decide +kernel
theorem dX10_text_41 : decode cX10_text 41 = .ok (.iconst 0, 1) := by decide +kernel
theorem dX10_text_42 : decode cX10_text 42 = .ok (.iastore, 1) := by decide +kernel
theorem dX10_text_43 : decode cX10_text 43 = .ok (.iinc 1 1, 3) := by decide +kernel
theorem dX10_text_46 : decode cX10_text 46 = .ok (.goto (-17), 3) := by decide +kernel
theorem dX10_text_49 : decode cX10_text 49 = .ok (.aload_n 0, 1) := by decide +kernel
theorem dX10_text_50 : decode cX10_text 50 = .ok (.getfield 7, 3) := by decide +kernel
theorem dX10_text_53 : decode cX10_text 53 = .ok (.iconst 2, 1) := by decide +kernel
theorem dX10_text_54 : decode cX10_text 54 = .ok (.iconst 1, 1) := by decide +kernel
theorem dX10_text_55 : decode cX10_text 55 = .ok (.iastore, 1) := by decide +kernel
theorem dX10_text_56 : decode cX10_text 56 = .ok (.aload_n 0, 1) := by decide +kernel
theorem dX10_text_57 : decode cX10_text 57 = .ok (.invokevirtual 97, 3) := by decide +kernel
theorem dX10_text_60 : decode cX10_text 60 = .ok (.aload_n 0, 1) := by decide +kernel
theorem dX10_text_61 : decode cX10_text 61 = .ok (.getfield 68, 3) := by decide +kernel
theorem dX10_text_64 : decode cX10_text 64 = .ok (.iconst (-1), 1) := by decide +kernel
theorem dX10_text_65 : decode cX10_text 65 = .ok (.if_icmp .ne 17, 3) := by decide +kernel
theorem dX10_text_68 : decode cX10_text 68 = .ok (.aload_n 0, 1) := by decide +kernel
theorem dX10_text_69 : decode cX10_text 69 = .ok (.getfield 90, 3) := by decide +kernel
theorem dX10_text_72 : decode cX10_text 72 = .ok (.ifCond .eq 10, 3) := by decide +kernel
theorem dX10_text_75 : decode cX10_text 75 = .ok (.aload_n 0, 1) := by decide +kernel
theorem dX10_text_76 : decode cX10_text 76 = .ok (.invokevirtual 144, 3) := by decide +kernel
theorem dX10_text_79 : decode cX10_text 79 = .ok (.goto (-19), 3) := by decide +kernel
theorem dX10_text_82 : decode cX10_text 82 = .ok (.aload_n 0, 1) := by decide +kernel
theorem dX10_text_83 : decode cX10_text 83 = .ok (.getfield 68, 3) := by decide +kernel
theorem dX10_text_86 : decode cX10_text 86 = .ok (.iconst (-1), 1) := by decide +kernel
theorem dX10_text_87 : decode cX10_text 87 = .ok (.if_icmp .eq 15, 3) := by decide +kernel
theorem dX10_text_90 : decode cX10_text 90 = .ok (.aload_n 0, 1) := by decide +kernel
theorem dX10_text_91 : decode cX10_text 91 = .ok (.invokevirtual 147, 3) := by decide +kernel
theorem dX10_text_94 : decode cX10_text 94 = .ok (.bipush (-4), 2) := by decide +kernel
theorem dX10_text_96 : decode cX10_text 96 = .ok (.aload_n 0, 1) := by decide +kernel
theorem dX10_text_97 : decode cX10_text 97 = .ok (.getfield 68, 3) := by decide +kernel
theorem dX10_text_100 : decode cX10_text 100 = .ok (.isub, 1) := by decide +kernel
theorem dX10_text_101 : decode cX10_text 101 = .ok (.ireturn, 1) := by decide +kernel
theorem dX10_text_102 : decode cX10_text 102 = .ok (.aload_n 0, 1) := by decide +kernel
theorem dX10_text_103 : decode cX10_text 103 = .ok (.invokevirtual 150, 3) := by decide +kernel
theorem dX10_text_106 : decode cX10_text 106 = .ok (.aload_n 0, 1) := by decide +kernel
theorem dX10_text_107 : decode cX10_text 107 = .ok (.iconst 0, 1) := by decide +kernel
theorem dX10_text_108 : decode cX10_text 108 = .ok (.putfield 153, 3) := by decide +kernel
theorem dX10_text_111 : decode cX10_text 111 = .ok (.aload_n 0, 1) := by decide +kernel
theorem dX10_text_112 : decode cX10_text 112 = .ok (.getfield 7, 3) := by decide +kernel
theorem dX10_text_115 : decode cX10_text 115 = .ok (.iconst 1, 1) := by decide +kernel
theorem dX10_text_116 : decode cX10_text 116 = .ok (.iaload, 1) := by decide +kernel
theorem dX10_text_117 : decode cX10_text 117 = .ok (.aload_n 0, 1) := by decide +kernel
theorem dX10_text_118 : decode cX10_text 118 = .ok (.getfield 7, 3) := by decide +kernel
theorem dX10_text_121 : decode cX10_text 121 = .ok (.iconst 0, 1) := by decide +kernel
theorem dX10_text_122 : decode cX10_text 122 = .ok (.iaload, 1) := by decide +kernel
theorem dX10_text_123 : decode cX10_text 123 = .ok (.imul, 1) := by decide +kernel
theorem dX10_text_124 : decode cX10_text 124 = .ok (.ireturn, 1) := by decide +kernel
theorem dX10_putAside_0 : decode cX10_putAside 0 = .ok (.iconst 0, 1) := by decide +kernel
theorem dX10_putAside_1 : decode cX10_putAside 1 = .ok (.istore_n 1, 1) := by decide +kernel
theorem dX10_putAside_2 : decode cX10_putAside 2 = .ok (.iload_n 1, 1) := by decide +kernel
theorem dX10_putAside_3 : decode cX10_putAside 3 = .ok (.sipush 2212, 3) := by decide +kernel
theorem dX10_putAside_6 : decode cX10_putAside 6 = .ok (.if_icmp .ge 21, 3) := by decide +kernel
theorem dX10_putAside_9 : decode cX10_putAside 9 = .ok (.aload_n 0, 1) := by decide +kernel
theorem dX10_putAside_10 : decode cX10_putAside 10 = .ok (.getfield 13, 3) := by decide +kernel
theorem dX10_putAside_13 : decode cX10_putAside 13 = .ok (.iload_n 1, 1) := by decide +kernel
theorem dX10_putAside_14 : decode cX10_putAside 14 = .ok (.aload_n 0, 1) := by decide +kernel
theorem dX10_putAside_15 : decode cX10_putAside 15 = .ok (.getfield 7, 3) := by decide +kernel
theorem dX10_putAside_18 : decode cX10_putAside 18 = .ok (.iload_n 1, 1) := by decide +kernel
theorem dX10_putAside_19 : decode cX10_putAside 19 = .ok (.iaload, 1) := by decide +kernel
theorem dX10_putAside_20 : decode cX10_putAside 20 = .ok (.iastore, 1) := by decide +kernel
theorem dX10_putAside_21 : decode cX10_putAside 21 = .ok (.iinc 1 1, 3) := by decide +kernel
theorem dX10_putAside_24 : decode cX10_putAside 24 = .ok (.goto (-22), 3) := by decide +kernel
theorem dX10_putAside_27 : decode cX10_putAside 27 = .ok (.return_, 1) := by decide +kernel
theorem dX10_bringBack_0 : decode cX10_bringBack 0 = .ok (.iconst 0, 1) := by decide +kernel
theorem dX10_bringBack_1 : decode cX10_bringBack 1 = .ok (.istore_n 1, 1) := by decide +kernel
theorem dX10_bringBack_2 : decode cX10_bringBack 2 = .ok (.iload_n 1, 1) := by decide +kernel
theorem dX10_bringBack_3 : decode cX10_bringBack 3 = .ok (.sipush 2212, 3) := by decide +kernel
theorem dX10_bringBack_6 : decode cX10_bringBack 6 = .ok (.if_icmp .ge 21, 3) := by decide +kernel
theorem dX10_bringBack_9 : decode cX10_bringBack 9 = .ok (.aload_n 0, 1) := by decide +kernel
theorem dX10_bringBack_10 : decode cX10_bringBack 10 = .ok (.getfield 7, 3) := by decide +kernel
theorem dX10_bringBack_13 : decode cX10_bringBack 13 = .ok (.iload_n 1, 1) := by decide +kernel
theorem dX10_bringBack_14 : decode cX10_bringBack 14 = .ok (.aload_n 0, 1) := by decide +kernel
theorem dX10_bringBack_15 : decode cX10_bringBack 15 = .ok (.getfield 13, 3) := by decide +kernel
theorem dX10_bringBack_18 : decode cX10_bringBack 18 = .ok (.iload_n 1, 1) := by decide +kernel
theorem dX10_bringBack_19 : decode cX10_bringBack 19 = .ok (.iaload, 1) := by decide +kernel
theorem dX10_bringBack_20 : decode cX10_bringBack 20 = .ok (.iastore, 1) := by decide +kernel
theorem dX10_bringBack_21 : decode cX10_bringBack 21 = .ok (.iinc 1 1, 3) := by decide +kernel
theorem dX10_bringBack_24 : decode cX10_bringBack 24 = .ok (.goto (-22), 3) := by decide +kernel
theorem dX10_bringBack_27 : decode cX10_bringBack 27 = .ok (.return_, 1) := by decide +kernel
theorem dX10_starts_0 : decode cX10_starts 0 = .ok (.iconst 5, 1) := by decide +kernel
theorem dX10_starts_1 : decode cX10_starts 1 = .ok (.istore_n 1, 1) := by decide +kernel
theorem dX10_starts_2 : decode cX10_starts 2 = .ok (.iload_n 1, 1) := by decide +kernel
theorem dX10_starts_3 : decode cX10_starts 3 = .ok (.bipush 20, 2) := by decide +kernel
theorem dX10_starts_5 : decode cX10_starts 5 = .ok (.if_icmp .ge 16, 3) := by decide +kernel
theorem dX10_starts_8 : decode cX10_starts 8 = .ok (.aload_n 0, 1) := by decide +kernel
theorem dX10_starts_9 : decode cX10_starts 9 = .ok (.getfield 7, 3) := by decide +kernel
theorem dX10_starts_12 : decode cX10_starts 12 = .ok (.iload_n 1, 1) := by decide +kernel
theorem dX10_starts_13 : decode cX10_starts 13 = .ok (.iconst 0, 1) := by decide +kernel
theorem dX10_starts_14 : decode cX10_starts 14 = .ok (.iastore, 1) := by decide +kernel
theorem dX10_starts_15 : decode cX10_starts 15 = .ok (.iinc 1 1, 3) := by decide +kernel
theorem dX10_starts_18 : decode cX10_starts 18 = .ok (.goto (-16), 3) := by decide +kernel
theorem dX10_starts_21 : decode cX10_starts 21 = .ok (.bipush 62, 2) := by decide +kernel
theorem dX10_starts_23 : decode cX10_starts 23 = .ok (.istore_n 1, 1) := by decide +kernel
theorem dX10_starts_24 : decode cX10_starts 24 = .ok (.iload_n 1, 1) := by decide +kernel
theorem dX10_starts_25 : decode cX10_starts 25 = .ok (.sipush 2212, 3) := by decide +kernel
theorem dX10_starts_28 : decode cX10_starts 28 = .ok (.if_icmp .ge 16, 3) := by decide +kernel
theorem dX10_starts_31 : decode cX10_starts 31 = .ok (.aload_n 0, 1) := by decide +kernel
theorem dX10_starts_32 : decode cX10_starts 32 = .ok (.getfield 7, 3) := by decide +kernel
theorem dX10_starts_35 : decode cX10_starts 35 = .ok (.iload_n 1, 1) := by decide +kernel
theorem dX10_starts_36 : decode cX10_starts 36 = .ok (.iconst 0, 1) := by decide +kernel
theorem dX10_starts_37 : decode cX10_starts 37 = .ok (.iastore, 1) := by decide +kernel
theorem dX10_starts_38 : decode cX10_starts 38 = .ok (.iinc 1 1, 3) := by decide +kernel
theorem dX10_starts_41 : decode cX10_starts 41 = .ok (.goto (-17), 3) := by decide +kernel
theorem dX10_starts_44 : decode cX10_starts 44 = .ok (.iconst 0, 1) := by decide +kernel
theorem dX10_starts_45 : decode cX10_starts 45 = .ok (.istore_n 1, 1) := by decide +kernel
theorem dX10_starts_46 : decode cX10_starts 46 = .ok (.iload_n 1, 1) := by decide +kernel
theorem dX10_starts_47 : decode cX10_starts 47 = .ok (.bipush 9, 2) := by decide +kernel
theorem dX10_starts_49 : decode cX10_starts 49 = .ok (.if_icmp .ge 27, 3) := by decide +kernel
theorem dX10_starts_52 : decode cX10_starts 52 = .ok (.aload_n 0, 1) := by decide +kernel
theorem dX10_starts_53 : decode cX10_starts 53 = .ok (.getfield 7, 3) := by decide +kernel
theorem dX10_starts_56 : decode cX10_starts 56 = .ok (.bipush 62, 2) := by decide +kernel
theorem dX10_starts_58 : decode cX10_starts 58 = .ok (.iload_n 1, 1) := by decide +kernel
theorem dX10_starts_59 : decode cX10_starts 59 = .ok (.iadd, 1) := by decide +kernel
theorem dX10_starts_60 : decode cX10_starts 60 = .ok (.aload_n 0, 1) := by decide +kernel
theorem dX10_starts_61 : decode cX10_starts 61 = .ok (.getfield 7, 3) := by decide +kernel
theorem dX10_starts_64 : decode cX10_starts 64 = .ok (.bipush 50, 2) := by decide +kernel
theorem dX10_starts_66 : decode cX10_starts 66 = .ok (.iload_n 1, 1) := by decide +kernel
theorem dX10_starts_67 : decode cX10_starts 67 = .ok (.iadd, 1) := by decide +kernel
theorem dX10_starts_68 : decode cX10_starts 68 = .ok (.iaload, 1) := by decide +kernel
theorem dX10_starts_69 : decode cX10_starts 69 = .ok (.iastore, 1) := by decide +kernel
theorem dX10_starts_70 : decode cX10_starts 70 = .ok (.iinc 1 1, 3) := by decide +kernel
theorem dX10_starts_73 : decode cX10_starts 73 = .ok (.goto (-27), 3) := by decide +kernel
theorem dX10_starts_76 : decode cX10_starts 76 = .ok (.iconst 0, 1) := by decide +kernel
theorem dX10_starts_77 : decode cX10_starts 77 = .ok (.istore_n 1, 1) := by decide +kernel
theorem dX10_starts_78 : decode cX10_starts 78 = .ok (.iload_n 1, 1) := by decide +kernel
theorem dX10_starts_79 : decode cX10_starts 79 = .ok (.iconst 3, 1) := by decide +kernel
theorem dX10_starts_80 : decode cX10_starts 80 = .ok (.if_icmp .ge 27, 3) := by decide +kernel
theorem dX10_starts_83 : decode cX10_starts 83 = .ok (.aload_n 0, 1) := by decide +kernel
theorem dX10_starts_84 : decode cX10_starts 84 = .ok (.getfield 7, 3) := by decide +kernel
theorem dX10_starts_87 : decode cX10_starts 87 = .ok (.bipush 71, 2) := by decide +kernel
theorem dX10_starts_89 : decode cX10_starts 89 = .ok (.iload_n 1, 1) := by decide +kernel
theorem dX10_starts_90 : decode cX10_starts 90 = .ok (.iadd, 1) := by decide +kernel
theorem dX10_starts_91 : decode cX10_starts 91 = .ok (.aload_n 0, 1) := by decide +kernel
theorem dX10_starts_92 : decode cX10_starts 92 = .ok (.getfield 7, 3) := by decide +kernel
theorem dX10_starts_95 : decode cX10_starts 95 = .ok (.bipush 59, 2) := by decide +kernel
theorem dX10_starts_97 : decode cX10_starts 97 = .ok (.iload_n 1, 1) := by decide +kernel
theorem dX10_starts_98 : decode cX10_starts 98 = .ok (.iadd, 1) := by decide +kernel
theorem dX10_starts_99 : decode cX10_starts 99 = .ok (.iaload, 1) := by decide +kernel
theorem dX10_starts_100 : decode cX10_starts 100 = .ok (.iastore, 1) := by decide +kernel
theorem dX10_starts_101 : decode cX10_starts 101 = .ok (.iinc 1 1, 3) := by decide +kernel
theorem dX10_starts_104 : decode cX10_starts 104 = .ok (.goto (-26), 3) := by decide +kernel
theorem dX10_starts_107 : decode cX10_starts 107 = .ok (.return_, 1) := by decide +kernel
theorem dX10_closes_0 : decode cX10_closes 0 = .ok (.iload_n 1, 1) := by decide +kernel
theorem dX10_closes_1 : decode cX10_closes 1 = .ok (.iload_n 2, 1) := by decide +kernel
theorem dX10_closes_2 : decode cX10_closes 2 = .ok (.iload_n 3, 1) := by decide +kernel
theorem dX10_closes_3 : decode cX10_closes 3 = .ok (.imul, 1) := by decide +kernel
theorem dX10_closes_4 : decode cX10_closes 4 = .ok (.iadd, 1) := by decide +kernel
theorem dX10_closes_5 : decode cX10_closes 5 = .ok (.istore 5, 2) := by decide +kernel
theorem dX10_closes_7 : decode cX10_closes 7 = .ok (.iload 5, 2) := by decide +kernel
theorem dX10_closes_9 : decode cX10_closes 9 = .ok (.iload_n 1, 1) := by decide +kernel
theorem dX10_closes_10 : decode cX10_closes 10 = .ok (.iload_n 2, 1) := by decide +kernel
theorem dX10_closes_11 : decode cX10_closes 11 = .ok (.iload 4, 2) := by decide +kernel
theorem dX10_closes_13 : decode cX10_closes 13 = .ok (.iconst 1, 1) := by decide +kernel
theorem dX10_closes_14 : decode cX10_closes 14 = .ok (.isub, 1) := by decide +kernel
theorem dX10_closes_15 : decode cX10_closes 15 = .ok (.imul, 1) := by decide +kernel
theorem dX10_closes_16 : decode cX10_closes 16 = .ok (.iadd, 1) := by decide +kernel
theorem dX10_closes_17 : decode cX10_closes 17 = .ok (.if_icmp .ge 25, 3) := by decide +kernel
theorem dX10_closes_20 : decode cX10_closes 20 = .ok (.aload_n 0, 1) := by decide +kernel
theorem dX10_closes_21 : decode cX10_closes 21 = .ok (.getfield 7, 3) := by decide +kernel
theorem dX10_closes_24 : decode cX10_closes 24 = .ok (.iload 5, 2) := by decide +kernel
theorem dX10_closes_26 : decode cX10_closes 26 = .ok (.aload_n 0, 1) := by decide +kernel
theorem dX10_closes_27 : decode cX10_closes 27 = .ok (.getfield 7, 3) := by decide +kernel
theorem dX10_closes_30 : decode cX10_closes 30 = .ok (.iload 5, 2) := by decide +kernel
theorem dX10_closes_32 : decode cX10_closes 32 = .ok (.iload_n 2, 1) := by decide +kernel
theorem dX10_closes_33 : decode cX10_closes 33 = .ok (.iadd, 1) := by decide +kernel
theorem dX10_closes_34 : decode cX10_closes 34 = .ok (.iaload, 1) := by decide +kernel
theorem dX10_closes_35 : decode cX10_closes 35 = .ok (.iastore, 1) := by decide +kernel
theorem dX10_closes_36 : decode cX10_closes 36 = .ok (.iinc 5 1, 3) := by decide +kernel
theorem dX10_closes_39 : decode cX10_closes 39 = .ok (.goto (-32), 3) := by decide +kernel
theorem dX10_closes_42 : decode cX10_closes 42 = .ok (.return_, 1) := by decide +kernel
theorem dX10_begins_0 : decode cX10_begins 0 = .ok (.sipush 1012, 3) := by decide +kernel
theorem dX10_begins_3 : decode cX10_begins 3 = .ok (.iconst 5, 1) := by decide +kernel
theorem dX10_begins_4 : decode cX10_begins 4 = .ok (.aload_n 0, 1) := by decide +kernel
theorem dX10_begins_5 : decode cX10_begins 5 = .ok (.getfield 7, 3) := by decide +kernel
theorem dX10_begins_8 : decode cX10_begins 8 = .ok (.bipush 16, 2) := by decide +kernel
theorem dX10_begins_10 : decode cX10_begins 10 = .ok (.iaload, 1) := by decide +kernel
theorem dX10_begins_11 : decode cX10_begins 11 = .ok (.imul, 1) := by decide +kernel
theorem dX10_begins_12 : decode cX10_begins 12 = .ok (.iadd, 1) := by decide +kernel
theorem dX10_begins_13 : decode cX10_begins 13 = .ok (.istore 5, 2) := by decide +kernel
theorem dX10_begins_15 : decode cX10_begins 15 = .ok (.aload_n 0, 1) := by decide +kernel
theorem dX10_begins_16 : decode cX10_begins 16 = .ok (.getfield 7, 3) := by decide +kernel
theorem dX10_begins_19 : decode cX10_begins 19 = .ok (.iload 5, 2) := by decide +kernel
theorem dX10_begins_21 : decode cX10_begins 21 = .ok (.iload_n 1, 1) := by decide +kernel
theorem dX10_begins_22 : decode cX10_begins 22 = .ok (.iastore, 1) := by decide +kernel
theorem dX10_begins_23 : decode cX10_begins 23 = .ok (.aload_n 0, 1) := by decide +kernel
theorem dX10_begins_24 : decode cX10_begins 24 = .ok (.getfield 7, 3) := by decide +kernel
theorem dX10_begins_27 : decode cX10_begins 27 = .ok (.iload 5, 2) := by decide +kernel
theorem dX10_begins_29 : decode cX10_begins 29 = .ok (.iconst 1, 1) := by decide +kernel
theorem dX10_begins_30 : decode cX10_begins 30 = .ok (.iadd, 1) := by decide +kernel
theorem dX10_begins_31 : decode cX10_begins 31 = .ok (.aload_n 0, 1) := by decide +kernel
theorem dX10_begins_32 : decode cX10_begins 32 = .ok (.getfield 7, 3) := by decide +kernel
theorem dX10_begins_35 : decode cX10_begins 35 = .ok (.bipush 13, 2) := by decide +kernel
theorem dX10_begins_37 : decode cX10_begins 37 = .ok (.iaload, 1) := by decide +kernel
theorem dX10_begins_38 : decode cX10_begins 38 = .ok (.iastore, 1) := by decide +kernel
theorem dX10_begins_39 : decode cX10_begins 39 = .ok (.aload_n 0, 1) := by decide +kernel
theorem dX10_begins_40 : decode cX10_begins 40 = .ok (.getfield 7, 3) := by decide +kernel
theorem dX10_begins_43 : decode cX10_begins 43 = .ok (.iload 5, 2) := by decide +kernel
theorem dX10_begins_45 : decode cX10_begins 45 = .ok (.iconst 2, 1) := by decide +kernel
theorem dX10_begins_46 : decode cX10_begins 46 = .ok (.iadd, 1) := by decide +kernel
theorem dX10_begins_47 : decode cX10_begins 47 = .ok (.iload_n 2, 1) := by decide +kernel
theorem dX10_begins_48 : decode cX10_begins 48 = .ok (.iastore, 1) := by decide +kernel
theorem dX10_begins_49 : decode cX10_begins 49 = .ok (.aload_n 0, 1) := by decide +kernel
theorem dX10_begins_50 : decode cX10_begins 50 = .ok (.getfield 7, 3) := by decide +kernel
theorem dX10_begins_53 : decode cX10_begins 53 = .ok (.iload 5, 2) := by decide +kernel
theorem dX10_begins_55 : decode cX10_begins 55 = .ok (.iconst 3, 1) := by decide +kernel
theorem dX10_begins_56 : decode cX10_begins 56 = .ok (.iadd, 1) := by decide +kernel
theorem dX10_begins_57 : decode cX10_begins 57 = .ok (.iload_n 3, 1) := by decide +kernel
theorem dX10_begins_58 : decode cX10_begins 58 = .ok (.iastore, 1) := by decide +kernel
theorem dX10_begins_59 : decode cX10_begins 59 = .ok (.aload_n 0, 1) := by decide +kernel
theorem dX10_begins_60 : decode cX10_begins 60 = .ok (.getfield 7, 3) := by decide +kernel
theorem dX10_begins_63 : decode cX10_begins 63 = .ok (.iload 5, 2) := by decide +kernel
theorem dX10_begins_65 : decode cX10_begins 65 = .ok (.iconst 4, 1) := by decide +kernel
theorem dX10_begins_66 : decode cX10_begins 66 = .ok (.iadd, 1) := by decide +kernel
theorem dX10_begins_67 : decode cX10_begins 67 = .ok (.aload_n 0, 1) := by decide +kernel
theorem dX10_begins_68 : decode cX10_begins 68 = .ok (.getfield 7, 3) := by decide +kernel
theorem dX10_begins_71 : decode cX10_begins 71 = .ok (.iconst 5, 1) := by decide +kernel
theorem dX10_begins_72 : decode cX10_begins 72 = .ok (.iaload, 1) := by decide +kernel
theorem dX10_begins_73 : decode cX10_begins 73 = .ok (.iload 4, 2) := by decide +kernel
theorem dX10_begins_75 : decode cX10_begins 75 = .ok (.iadd, 1) := by decide +kernel
theorem dX10_begins_76 : decode cX10_begins 76 = .ok (.iastore, 1) := by decide +kernel
theorem dX10_begins_77 : decode cX10_begins 77 = .ok (.aload_n 0, 1) := by decide +kernel
theorem dX10_begins_78 : decode cX10_begins 78 = .ok (.getfield 7, 3) := by decide +kernel
theorem dX10_begins_81 : decode cX10_begins 81 = .ok (.bipush 16, 2) := by decide +kernel
theorem dX10_begins_83 : decode cX10_begins 83 = .ok (.dup2, 1) := by decide +kernel
theorem dX10_begins_84 : decode cX10_begins 84 = .ok (.iaload, 1) := by decide +kernel
theorem dX10_begins_85 : decode cX10_begins 85 = .ok (.iconst 1, 1) := by decide +kernel
theorem dX10_begins_86 : decode cX10_begins 86 = .ok (.iadd, 1) := by decide +kernel
theorem dX10_begins_87 : decode cX10_begins 87 = .ok (.iastore, 1) := by decide +kernel
theorem dX10_begins_88 : decode cX10_begins 88 = .ok (.aload_n 0, 1) := by decide +kernel
theorem dX10_begins_89 : decode cX10_begins 89 = .ok (.getfield 7, 3) := by decide +kernel
theorem dX10_begins_92 : decode cX10_begins 92 = .ok (.bipush 13, 2) := by decide +kernel
theorem dX10_begins_94 : decode cX10_begins 94 = .ok (.dup2, 1) := by decide +kernel
theorem dX10_begins_95 : decode cX10_begins 95 = .ok (.iaload, 1) := by decide +kernel
theorem dX10_begins_96 : decode cX10_begins 96 = .ok (.iconst 1, 1) := by decide +kernel
theorem dX10_begins_97 : decode cX10_begins 97 = .ok (.iadd, 1) := by decide +kernel
theorem dX10_begins_98 : decode cX10_begins 98 = .ok (.iastore, 1) := by decide +kernel
theorem dX10_begins_99 : decode cX10_begins 99 = .ok (.aload_n 0, 1) := by decide +kernel
theorem dX10_begins_100 : decode cX10_begins 100 = .ok (.getfield 7, 3) := by decide +kernel
theorem dX10_begins_103 : decode cX10_begins 103 = .ok (.bipush 13, 2) := by decide +kernel
theorem dX10_begins_105 : decode cX10_begins 105 = .ok (.iaload, 1) := by decide +kernel
theorem dX10_begins_106 : decode cX10_begins 106 = .ok (.iconst 1, 1) := by decide +kernel
theorem dX10_begins_107 : decode cX10_begins 107 = .ok (.isub, 1) := by decide +kernel
theorem dX10_begins_108 : decode cX10_begins 108 = .ok (.ireturn, 1) := by decide +kernel
theorem dX10_wantsOf_0 : decode cX10_wantsOf 0 = .ok (.iconst 0, 1) := by decide +kernel
theorem dX10_wantsOf_1 : decode cX10_wantsOf 1 = .ok (.istore_n 3, 1) := by decide +kernel
theorem dX10_wantsOf_2 : decode cX10_wantsOf 2 = .ok (.iconst 0, 1) := by decide +kernel
theorem dX10_wantsOf_3 : decode cX10_wantsOf 3 = .ok (.istore 4, 2) := by decide +kernel
theorem dX10_wantsOf_5 : decode cX10_wantsOf 5 = .ok (.iload 4, 2) := by decide +kernel
theorem dX10_wantsOf_7 : decode cX10_wantsOf 7 = .ok (.aload_n 0, 1) := by decide +kernel
theorem dX10_wantsOf_8 : decode cX10_wantsOf 8 = .ok (.getfield 7, 3) := by decide +kernel
theorem dX10_wantsOf_11 : decode cX10_wantsOf 11 = .ok (.bipush 14, 2) := by decide +kernel
theorem dX10_wantsOf_13 : decode cX10_wantsOf 13 = .ok (.iaload, 1) := by decide +kernel
theorem dX10_wantsOf_14 : decode cX10_wantsOf 14 = .ok (.if_icmp .ge 51, 3) := by decide +kernel
theorem dX10_wantsOf_17 : decode cX10_wantsOf 17 = .ok (.iload_n 3, 1) := by decide +kernel
theorem dX10_wantsOf_18 : decode cX10_wantsOf 18 = .ok (.aload_n 0, 1) := by decide +kernel
theorem dX10_wantsOf_19 : decode cX10_wantsOf 19 = .ok (.getfield 7, 3) := by decide +kernel
theorem dX10_wantsOf_22 : decode cX10_wantsOf 22 = .ok (.bipush 92, 2) := by decide +kernel
theorem dX10_wantsOf_24 : decode cX10_wantsOf 24 = .ok (.iconst 4, 1) := by decide +kernel
theorem dX10_wantsOf_25 : decode cX10_wantsOf 25 = .ok (.iload 4, 2) := by decide +kernel
theorem dX10_wantsOf_27 : decode cX10_wantsOf 27 = .ok (.imul, 1) := by decide +kernel
theorem dX10_wantsOf_28 : decode cX10_wantsOf 28 = .ok (.iadd, 1) := by decide +kernel
theorem dX10_wantsOf_29 : decode cX10_wantsOf 29 = .ok (.iaload, 1) := by decide +kernel
theorem dX10_wantsOf_30 : decode cX10_wantsOf 30 = .ok (.iload_n 1, 1) := by decide +kernel
theorem dX10_wantsOf_31 : decode cX10_wantsOf 31 = .ok (.if_icmp .ne 25, 3) := by decide +kernel
theorem dX10_wantsOf_34 : decode cX10_wantsOf 34 = .ok (.aload_n 0, 1) := by decide +kernel
theorem dX10_wantsOf_35 : decode cX10_wantsOf 35 = .ok (.getfield 7, 3) := by decide +kernel
theorem dX10_wantsOf_38 : decode cX10_wantsOf 38 = .ok (.bipush 92, 2) := by decide +kernel
theorem dX10_wantsOf_40 : decode cX10_wantsOf 40 = .ok (.iconst 4, 1) := by decide +kernel
theorem dX10_wantsOf_41 : decode cX10_wantsOf 41 = .ok (.iload 4, 2) := by decide +kernel
theorem dX10_wantsOf_43 : decode cX10_wantsOf 43 = .ok (.imul, 1) := by decide +kernel
theorem dX10_wantsOf_44 : decode cX10_wantsOf 44 = .ok (.iadd, 1) := by decide +kernel
theorem dX10_wantsOf_45 : decode cX10_wantsOf 45 = .ok (.iconst 1, 1) := by decide +kernel
theorem dX10_wantsOf_46 : decode cX10_wantsOf 46 = .ok (.iadd, 1) := by decide +kernel
theorem dX10_wantsOf_47 : decode cX10_wantsOf 47 = .ok (.iaload, 1) := by decide +kernel
theorem dX10_wantsOf_48 : decode cX10_wantsOf 48 = .ok (.iload_n 2, 1) := by decide +kernel
theorem dX10_wantsOf_49 : decode cX10_wantsOf 49 = .ok (.if_icmp .ne 7, 3) := by decide +kernel
theorem dX10_wantsOf_52 : decode cX10_wantsOf 52 = .ok (.iconst 1, 1) := by decide +kernel
theorem dX10_wantsOf_53 : decode cX10_wantsOf 53 = .ok (.goto 4, 3) := by decide +kernel
theorem dX10_wantsOf_56 : decode cX10_wantsOf 56 = .ok (.iconst 0, 1) := by decide +kernel
theorem dX10_wantsOf_57 : decode cX10_wantsOf 57 = .ok (.iadd, 1) := by decide +kernel
theorem dX10_wantsOf_58 : decode cX10_wantsOf 58 = .ok (.istore_n 3, 1) := by decide +kernel
theorem dX10_wantsOf_59 : decode cX10_wantsOf 59 = .ok (.iinc 4 1, 3) := by decide +kernel
theorem dX10_wantsOf_62 : decode cX10_wantsOf 62 = .ok (.goto (-57), 3) := by decide +kernel
theorem dX10_wantsOf_65 : decode cX10_wantsOf 65 = .ok (.iload_n 3, 1) := by decide +kernel
theorem dX10_wantsOf_66 : decode cX10_wantsOf 66 = .ok (.ireturn, 1) := by decide +kernel
theorem dX10_callsOf_0 : decode cX10_callsOf 0 = .ok (.iconst 0, 1) := by decide +kernel
theorem dX10_callsOf_1 : decode cX10_callsOf 1 = .ok (.istore_n 3, 1) := by decide +kernel
theorem dX10_callsOf_2 : decode cX10_callsOf 2 = .ok (.iconst 0, 1) := by decide +kernel
theorem dX10_callsOf_3 : decode cX10_callsOf 3 = .ok (.istore 4, 2) := by decide +kernel
theorem dX10_callsOf_5 : decode cX10_callsOf 5 = .ok (.iload 4, 2) := by decide +kernel
theorem dX10_callsOf_7 : decode cX10_callsOf 7 = .ok (.aload_n 0, 1) := by decide +kernel
theorem dX10_callsOf_8 : decode cX10_callsOf 8 = .ok (.getfield 7, 3) := by decide +kernel
theorem dX10_callsOf_11 : decode cX10_callsOf 11 = .ok (.bipush 15, 2) := by decide +kernel
theorem dX10_callsOf_13 : decode cX10_callsOf 13 = .ok (.iaload, 1) := by decide +kernel
theorem dX10_callsOf_14 : decode cX10_callsOf 14 = .ok (.if_icmp .ge 53, 3) := by decide +kernel
theorem dX10_callsOf_17 : decode cX10_callsOf 17 = .ok (.iload_n 3, 1) := by decide +kernel
theorem dX10_callsOf_18 : decode cX10_callsOf 18 = .ok (.aload_n 0, 1) := by decide +kernel
theorem dX10_callsOf_19 : decode cX10_callsOf 19 = .ok (.getfield 7, 3) := by decide +kernel
theorem dX10_callsOf_22 : decode cX10_callsOf 22 = .ok (.sipush 412, 3) := by decide +kernel
theorem dX10_callsOf_25 : decode cX10_callsOf 25 = .ok (.iconst 3, 1) := by decide +kernel
theorem dX10_callsOf_26 : decode cX10_callsOf 26 = .ok (.iload 4, 2) := by decide +kernel
theorem dX10_callsOf_28 : decode cX10_callsOf 28 = .ok (.imul, 1) := by decide +kernel
theorem dX10_callsOf_29 : decode cX10_callsOf 29 = .ok (.iadd, 1) := by decide +kernel
theorem dX10_callsOf_30 : decode cX10_callsOf 30 = .ok (.iaload, 1) := by decide +kernel
theorem dX10_callsOf_31 : decode cX10_callsOf 31 = .ok (.iload_n 1, 1) := by decide +kernel
theorem dX10_callsOf_32 : decode cX10_callsOf 32 = .ok (.if_icmp .ne 26, 3) := by decide +kernel
theorem dX10_callsOf_35 : decode cX10_callsOf 35 = .ok (.aload_n 0, 1) := by decide +kernel
theorem dX10_callsOf_36 : decode cX10_callsOf 36 = .ok (.getfield 7, 3) := by decide +kernel
theorem dX10_callsOf_39 : decode cX10_callsOf 39 = .ok (.sipush 412, 3) := by decide +kernel
theorem dX10_callsOf_42 : decode cX10_callsOf 42 = .ok (.iconst 3, 1) := by decide +kernel
theorem dX10_callsOf_43 : decode cX10_callsOf 43 = .ok (.iload 4, 2) := by decide +kernel
theorem dX10_callsOf_45 : decode cX10_callsOf 45 = .ok (.imul, 1) := by decide +kernel
theorem dX10_callsOf_46 : decode cX10_callsOf 46 = .ok (.iadd, 1) := by decide +kernel
theorem dX10_callsOf_47 : decode cX10_callsOf 47 = .ok (.iconst 1, 1) := by decide +kernel
theorem dX10_callsOf_48 : decode cX10_callsOf 48 = .ok (.iadd, 1) := by decide +kernel
theorem dX10_callsOf_49 : decode cX10_callsOf 49 = .ok (.iaload, 1) := by decide +kernel
theorem dX10_callsOf_50 : decode cX10_callsOf 50 = .ok (.iload_n 2, 1) := by decide +kernel
theorem dX10_callsOf_51 : decode cX10_callsOf 51 = .ok (.if_icmp .ne 7, 3) := by decide +kernel
theorem dX10_callsOf_54 : decode cX10_callsOf 54 = .ok (.iconst 1, 1) := by decide +kernel
theorem dX10_callsOf_55 : decode cX10_callsOf 55 = .ok (.goto 4, 3) := by decide +kernel
theorem dX10_callsOf_58 : decode cX10_callsOf 58 = .ok (.iconst 0, 1) := by decide +kernel
theorem dX10_callsOf_59 : decode cX10_callsOf 59 = .ok (.iadd, 1) := by decide +kernel
theorem dX10_callsOf_60 : decode cX10_callsOf 60 = .ok (.istore_n 3, 1) := by decide +kernel
theorem dX10_callsOf_61 : decode cX10_callsOf 61 = .ok (.iinc 4 1, 3) := by decide +kernel
theorem dX10_callsOf_64 : decode cX10_callsOf 64 = .ok (.goto (-59), 3) := by decide +kernel
theorem dX10_callsOf_67 : decode cX10_callsOf 67 = .ok (.iload_n 3, 1) := by decide +kernel
theorem dX10_callsOf_68 : decode cX10_callsOf 68 = .ok (.ireturn, 1) := by decide +kernel
theorem dX10_nextCall_0 : decode cX10_nextCall 0 = .ok (.iconst (-1), 1) := by decide +kernel
theorem dX10_nextCall_1 : decode cX10_nextCall 1 = .ok (.istore_n 2, 1) := by decide +kernel
theorem dX10_nextCall_2 : decode cX10_nextCall 2 = .ok (.iconst 0, 1) := by decide +kernel
theorem dX10_nextCall_3 : decode cX10_nextCall 3 = .ok (.istore_n 3, 1) := by decide +kernel
theorem dX10_nextCall_4 : decode cX10_nextCall 4 = .ok (.iconst 0, 1) := by decide +kernel
theorem dX10_nextCall_5 : decode cX10_nextCall 5 = .ok (.istore 4, 2) := by decide +kernel
theorem dX10_nextCall_7 : decode cX10_nextCall 7 = .ok (.iload 4, 2) := by decide +kernel
theorem dX10_nextCall_9 : decode cX10_nextCall 9 = .ok (.aload_n 0, 1) := by decide +kernel
theorem dX10_nextCall_10 : decode cX10_nextCall 10 = .ok (.getfield 7, 3) := by decide +kernel
theorem dX10_nextCall_13 : decode cX10_nextCall 13 = .ok (.bipush 15, 2) := by decide +kernel
theorem dX10_nextCall_15 : decode cX10_nextCall 15 = .ok (.iaload, 1) := by decide +kernel
theorem dX10_nextCall_16 : decode cX10_nextCall 16 = .ok (.if_icmp .ge 81, 3) := by decide +kernel
theorem dX10_nextCall_19 : decode cX10_nextCall 19 = .ok (.aload_n 0, 1) := by decide +kernel
theorem dX10_nextCall_20 : decode cX10_nextCall 20 = .ok (.getfield 7, 3) := by decide +kernel
theorem dX10_nextCall_23 : decode cX10_nextCall 23 = .ok (.sipush 412, 3) := by decide +kernel
theorem dX10_nextCall_26 : decode cX10_nextCall 26 = .ok (.iconst 3, 1) := by decide +kernel
theorem dX10_nextCall_27 : decode cX10_nextCall 27 = .ok (.iload 4, 2) := by decide +kernel
theorem dX10_nextCall_29 : decode cX10_nextCall 29 = .ok (.imul, 1) := by decide +kernel
theorem dX10_nextCall_30 : decode cX10_nextCall 30 = .ok (.iadd, 1) := by decide +kernel
theorem dX10_nextCall_31 : decode cX10_nextCall 31 = .ok (.iconst 1, 1) := by decide +kernel
theorem dX10_nextCall_32 : decode cX10_nextCall 32 = .ok (.iadd, 1) := by decide +kernel
theorem dX10_nextCall_33 : decode cX10_nextCall 33 = .ok (.iaload, 1) := by decide +kernel
theorem dX10_nextCall_34 : decode cX10_nextCall 34 = .ok (.iload_n 1, 1) := by decide +kernel
theorem dX10_nextCall_35 : decode cX10_nextCall 35 = .ok (.if_icmp .eq 6, 3) := by decide +kernel
theorem dX10_nextCall_38 : decode cX10_nextCall 38 = .ok (.goto 53, 3) := by decide +kernel
theorem dX10_nextCall_41 : decode cX10_nextCall 41 = .ok (.aload_n 0, 1) := by decide +kernel
theorem dX10_nextCall_42 : decode cX10_nextCall 42 = .ok (.getfield 7, 3) := by decide +kernel
theorem dX10_nextCall_45 : decode cX10_nextCall 45 = .ok (.iconst 4, 1) := by decide +kernel
theorem dX10_nextCall_46 : decode cX10_nextCall 46 = .ok (.iaload, 1) := by decide +kernel
theorem dX10_nextCall_47 : decode cX10_nextCall 47 = .ok (.ifCond .ne 7, 3) := by decide +kernel
theorem dX10_nextCall_50 : decode cX10_nextCall 50 = .ok (.iconst 0, 1) := by decide +kernel
theorem dX10_nextCall_51 : decode cX10_nextCall 51 = .ok (.goto 21, 3) := by decide +kernel
theorem dX10_nextCall_54 : decode cX10_nextCall 54 = .ok (.aload_n 0, 1) := by decide +kernel
theorem dX10_nextCall_55 : decode cX10_nextCall 55 = .ok (.aload_n 0, 1) := by decide +kernel
theorem dX10_nextCall_56 : decode cX10_nextCall 56 = .ok (.getfield 7, 3) := by decide +kernel
theorem dX10_nextCall_59 : decode cX10_nextCall 59 = .ok (.sipush 412, 3) := by decide +kernel
theorem dX10_nextCall_62 : decode cX10_nextCall 62 = .ok (.iconst 3, 1) := by decide +kernel
theorem dX10_nextCall_63 : decode cX10_nextCall 63 = .ok (.iload 4, 2) := by decide +kernel
theorem dX10_nextCall_65 : decode cX10_nextCall 65 = .ok (.imul, 1) := by decide +kernel
theorem dX10_nextCall_66 : decode cX10_nextCall 66 = .ok (.iadd, 1) := by decide +kernel
theorem dX10_nextCall_67 : decode cX10_nextCall 67 = .ok (.iaload, 1) := by decide +kernel
theorem dX10_nextCall_68 : decode cX10_nextCall 68 = .ok (.iload_n 1, 1) := by decide +kernel
theorem dX10_nextCall_69 : decode cX10_nextCall 69 = .ok (.invokevirtual 156, 3) := by decide +kernel
theorem dX10_nextCall_72 : decode cX10_nextCall 72 = .ok (.istore 5, 2) := by decide +kernel
theorem dX10_nextCall_74 : decode cX10_nextCall 74 = .ok (.iload_n 2, 1) := by decide +kernel
theorem dX10_nextCall_75 : decode cX10_nextCall 75 = .ok (.iconst (-1), 1) := by decide +kernel
theorem dX10_nextCall_76 : decode cX10_nextCall 76 = .ok (.if_icmp .eq 9, 3) := by decide +kernel
theorem dX10_nextCall_79 : decode cX10_nextCall 79 = .ok (.iload 5, 2) := by decide +kernel
theorem dX10_nextCall_81 : decode cX10_nextCall 81 = .ok (.iload_n 3, 1) := by decide +kernel
theorem dX10_nextCall_82 : decode cX10_nextCall 82 = .ok (.if_icmp .le 9, 3) := by decide +kernel
theorem dX10_nextCall_85 : decode cX10_nextCall 85 = .ok (.iload 4, 2) := by decide +kernel
theorem dX10_nextCall_87 : decode cX10_nextCall 87 = .ok (.istore_n 2, 1) := by decide +kernel
theorem dX10_nextCall_88 : decode cX10_nextCall 88 = .ok (.iload 5, 2) := by decide +kernel
theorem dX10_nextCall_90 : decode cX10_nextCall 90 = .ok (.istore_n 3, 1) := by decide +kernel
theorem dX10_nextCall_91 : decode cX10_nextCall 91 = .ok (.iinc 4 1, 3) := by decide +kernel
theorem dX10_nextCall_94 : decode cX10_nextCall 94 = .ok (.goto (-87), 3) := by decide +kernel
theorem dX10_nextCall_97 : decode cX10_nextCall 97 = .ok (.iload_n 2, 1) := by decide +kernel
theorem dX10_nextCall_98 : decode cX10_nextCall 98 = .ok (.ireturn, 1) := by decide +kernel
theorem dX10_answers_0 : decode cX10_answers 0 = .ok (.aload_n 0, 1) := by decide +kernel
theorem dX10_answers_1 : decode cX10_answers 1 = .ok (.iload_n 1, 1) := by decide +kernel
theorem dX10_answers_2 : decode cX10_answers 2 = .ok (.invokevirtual 159, 3) := by decide +kernel
theorem dX10_answers_5 : decode cX10_answers 5 = .ok (.istore_n 2, 1) := by decide +kernel
theorem dX10_answers_6 : decode cX10_answers 6 = .ok (.aload_n 0, 1) := by decide +kernel
theorem dX10_answers_7 : decode cX10_answers 7 = .ok (.getfield 7, 3) := by decide +kernel
theorem dX10_answers_10 : decode cX10_answers 10 = .ok (.bipush 71, 2) := by decide +kernel
theorem dX10_answers_12 : decode cX10_answers 12 = .ok (.iload_n 1, 1) := by decide +kernel
theorem dX10_answers_13 : decode cX10_answers 13 = .ok (.iadd, 1) := by decide +kernel
theorem dX10_answers_14 : decode cX10_answers 14 = .ok (.iaload, 1) := by decide +kernel
theorem dX10_answers_15 : decode cX10_answers 15 = .ok (.ifCond .le 99, 3) := by decide +kernel
theorem dX10_answers_18 : decode cX10_answers 18 = .ok (.iload_n 2, 1) := by decide +kernel
theorem dX10_answers_19 : decode cX10_answers 19 = .ok (.iconst (-1), 1) := by decide +kernel
theorem dX10_answers_20 : decode cX10_answers 20 = .ok (.if_icmp .eq 94, 3) := by decide +kernel
theorem dX10_answers_23 : decode cX10_answers 23 = .ok (.aload_n 0, 1) := by decide +kernel
theorem dX10_answers_24 : decode cX10_answers 24 = .ok (.getfield 7, 3) := by decide +kernel
theorem dX10_answers_27 : decode cX10_answers 27 = .ok (.sipush 412, 3) := by decide +kernel
theorem dX10_answers_30 : decode cX10_answers 30 = .ok (.iconst 3, 1) := by decide +kernel
theorem dX10_answers_31 : decode cX10_answers 31 = .ok (.iload_n 2, 1) := by decide +kernel
theorem dX10_answers_32 : decode cX10_answers 32 = .ok (.imul, 1) := by decide +kernel
theorem dX10_answers_33 : decode cX10_answers 33 = .ok (.iadd, 1) := by decide +kernel
theorem dX10_answers_34 : decode cX10_answers 34 = .ok (.iaload, 1) := by decide +kernel
theorem dX10_answers_35 : decode cX10_answers 35 = .ok (.istore_n 3, 1) := by decide +kernel
theorem dX10_answers_36 : decode cX10_answers 36 = .ok (.aload_n 0, 1) := by decide +kernel
theorem dX10_answers_37 : decode cX10_answers 37 = .ok (.sipush 412, 3) := by decide +kernel
theorem dX10_answers_40 : decode cX10_answers 40 = .ok (.iconst 3, 1) := by decide +kernel
theorem dX10_answers_41 : decode cX10_answers 41 = .ok (.iload_n 2, 1) := by decide +kernel
theorem dX10_answers_42 : decode cX10_answers 42 = .ok (.aload_n 0, 1) := by decide +kernel
theorem dX10_answers_43 : decode cX10_answers 43 = .ok (.getfield 7, 3) := by decide +kernel
theorem dX10_answers_46 : decode cX10_answers 46 = .ok (.bipush 15, 2) := by decide +kernel
theorem dX10_answers_48 : decode cX10_answers 48 = .ok (.iaload, 1) := by decide +kernel
theorem dX10_answers_49 : decode cX10_answers 49 = .ok (.invokevirtual 163, 3) := by decide +kernel
theorem dX10_answers_52 : decode cX10_answers 52 = .ok (.aload_n 0, 1) := by decide +kernel
theorem dX10_answers_53 : decode cX10_answers 53 = .ok (.getfield 7, 3) := by decide +kernel
theorem dX10_answers_56 : decode cX10_answers 56 = .ok (.bipush 15, 2) := by decide +kernel
theorem dX10_answers_58 : decode cX10_answers 58 = .ok (.dup2, 1) := by decide +kernel
theorem dX10_answers_59 : decode cX10_answers 59 = .ok (.iaload, 1) := by decide +kernel
theorem dX10_answers_60 : decode cX10_answers 60 = .ok (.iconst 1, 1) := by decide +kernel
theorem dX10_answers_61 : decode cX10_answers 61 = .ok (.isub, 1) := by decide +kernel
theorem dX10_answers_62 : decode cX10_answers 62 = .ok (.iastore, 1) := by decide +kernel
theorem dX10_answers_63 : decode cX10_answers 63 = .ok (.aload_n 0, 1) := by decide +kernel
theorem dX10_answers_64 : decode cX10_answers 64 = .ok (.getfield 7, 3) := by decide +kernel
theorem dX10_answers_67 : decode cX10_answers 67 = .ok (.bipush 71, 2) := by decide +kernel
theorem dX10_answers_69 : decode cX10_answers 69 = .ok (.iload_n 1, 1) := by decide +kernel
theorem dX10_answers_70 : decode cX10_answers 70 = .ok (.iadd, 1) := by decide +kernel
theorem dX10_answers_71 : decode cX10_answers 71 = .ok (.dup2, 1) := by decide +kernel
theorem dX10_answers_72 : decode cX10_answers 72 = .ok (.iaload, 1) := by decide +kernel
theorem dX10_answers_73 : decode cX10_answers 73 = .ok (.iconst 1, 1) := by decide +kernel
theorem dX10_answers_74 : decode cX10_answers 74 = .ok (.isub, 1) := by decide +kernel
theorem dX10_answers_75 : decode cX10_answers 75 = .ok (.iastore, 1) := by decide +kernel
theorem dX10_answers_76 : decode cX10_answers 76 = .ok (.aload_n 0, 1) := by decide +kernel
theorem dX10_answers_77 : decode cX10_answers 77 = .ok (.getfield 7, 3) := by decide +kernel
theorem dX10_answers_80 : decode cX10_answers 80 = .ok (.bipush 12, 2) := by decide +kernel
theorem dX10_answers_82 : decode cX10_answers 82 = .ok (.dup2, 1) := by decide +kernel
theorem dX10_answers_83 : decode cX10_answers 83 = .ok (.iaload, 1) := by decide +kernel
theorem dX10_answers_84 : decode cX10_answers 84 = .ok (.iconst 1, 1) := by decide +kernel
theorem dX10_answers_85 : decode cX10_answers 85 = .ok (.iadd, 1) := by decide +kernel
theorem dX10_answers_86 : decode cX10_answers 86 = .ok (.iastore, 1) := by decide +kernel
theorem dX10_answers_87 : decode cX10_answers 87 = .ok (.aload_n 0, 1) := by decide +kernel
theorem dX10_answers_88 : decode cX10_answers 88 = .ok (.iconst 3, 1) := by decide +kernel
theorem dX10_answers_89 : decode cX10_answers 89 = .ok (.iload_n 1, 1) := by decide +kernel
theorem dX10_answers_90 : decode cX10_answers 90 = .ok (.iload_n 3, 1) := by decide +kernel
theorem dX10_answers_91 : decode cX10_answers 91 = .ok (.aload_n 0, 1) := by decide +kernel
theorem dX10_answers_92 : decode cX10_answers 92 = .ok (.getfield 7, 3) := by decide +kernel
theorem dX10_answers_95 : decode cX10_answers 95 = .ok (.bipush 29, 2) := by decide +kernel
theorem dX10_answers_97 : decode cX10_answers 97 = .ok (.iload_n 3, 1) := by decide +kernel
theorem dX10_answers_98 : decode cX10_answers 98 = .ok (.iadd, 1) := by decide +kernel
theorem dX10_answers_99 : decode cX10_answers 99 = .ok (.iaload, 1) := by decide +kernel
theorem dX10_answers_100 : decode cX10_answers 100 = .ok (.invokevirtual 167, 3) := by decide +kernel
theorem dX10_answers_103 : decode cX10_answers 103 = .ok (.istore 4, 2) := by decide +kernel
theorem dX10_answers_105 : decode cX10_answers 105 = .ok (.aload_n 0, 1) := by decide +kernel
theorem dX10_answers_106 : decode cX10_answers 106 = .ok (.iload_n 1, 1) := by decide +kernel
theorem dX10_answers_107 : decode cX10_answers 107 = .ok (.invokevirtual 159, 3) := by decide +kernel
theorem dX10_answers_110 : decode cX10_answers 110 = .ok (.istore_n 2, 1) := by decide +kernel
theorem dX10_answers_111 : decode cX10_answers 111 = .ok (.goto (-105), 3) := by decide +kernel
theorem dX10_answers_114 : decode cX10_answers 114 = .ok (.return_, 1) := by decide +kernel
theorem dX10_onBenches_0 : decode cX10_onBenches 0 = .ok (.iconst 0, 1) := by decide +kernel
theorem dX10_onBenches_1 : decode cX10_onBenches 1 = .ok (.istore_n 1, 1) := by decide +kernel
theorem dX10_onBenches_2 : decode cX10_onBenches 2 = .ok (.iconst 0, 1) := by decide +kernel
theorem dX10_onBenches_3 : decode cX10_onBenches 3 = .ok (.istore_n 2, 1) := by decide +kernel
theorem dX10_onBenches_4 : decode cX10_onBenches 4 = .ok (.iload_n 2, 1) := by decide +kernel
theorem dX10_onBenches_5 : decode cX10_onBenches 5 = .ok (.aload_n 0, 1) := by decide +kernel
theorem dX10_onBenches_6 : decode cX10_onBenches 6 = .ok (.getfield 7, 3) := by decide +kernel
theorem dX10_onBenches_9 : decode cX10_onBenches 9 = .ok (.bipush 16, 2) := by decide +kernel
theorem dX10_onBenches_11 : decode cX10_onBenches 11 = .ok (.iaload, 1) := by decide +kernel
theorem dX10_onBenches_12 : decode cX10_onBenches 12 = .ok (.if_icmp .ge 33, 3) := by decide +kernel
theorem dX10_onBenches_15 : decode cX10_onBenches 15 = .ok (.iload_n 1, 1) := by decide +kernel
theorem dX10_onBenches_16 : decode cX10_onBenches 16 = .ok (.aload_n 0, 1) := by decide +kernel
theorem dX10_onBenches_17 : decode cX10_onBenches 17 = .ok (.getfield 7, 3) := by decide +kernel
theorem dX10_onBenches_20 : decode cX10_onBenches 20 = .ok (.sipush 1012, 3) := by decide +kernel
theorem dX10_onBenches_23 : decode cX10_onBenches 23 = .ok (.iconst 5, 1) := by decide +kernel
theorem dX10_onBenches_24 : decode cX10_onBenches 24 = .ok (.iload_n 2, 1) := by decide +kernel
theorem dX10_onBenches_25 : decode cX10_onBenches 25 = .ok (.imul, 1) := by decide +kernel
theorem dX10_onBenches_26 : decode cX10_onBenches 26 = .ok (.iadd, 1) := by decide +kernel
theorem dX10_onBenches_27 : decode cX10_onBenches 27 = .ok (.iaload, 1) := by decide +kernel
theorem dX10_onBenches_28 : decode cX10_onBenches 28 = .ok (.iconst 2, 1) := by decide +kernel
theorem dX10_onBenches_29 : decode cX10_onBenches 29 = .ok (.if_icmp .ne 7, 3) := by decide +kernel
theorem dX10_onBenches_32 : decode cX10_onBenches 32 = .ok (.iconst 1, 1) := by decide +kernel
theorem dX10_onBenches_33 : decode cX10_onBenches 33 = .ok (.goto 4, 3) := by decide +kernel
theorem dX10_onBenches_36 : decode cX10_onBenches 36 = .ok (.iconst 0, 1) := by decide +kernel
theorem dX10_onBenches_37 : decode cX10_onBenches 37 = .ok (.iadd, 1) := by decide +kernel
theorem dX10_onBenches_38 : decode cX10_onBenches 38 = .ok (.istore_n 1, 1) := by decide +kernel
theorem dX10_onBenches_39 : decode cX10_onBenches 39 = .ok (.iinc 2 1, 3) := by decide +kernel
theorem dX10_onBenches_42 : decode cX10_onBenches 42 = .ok (.goto (-38), 3) := by decide +kernel
theorem dX10_onBenches_45 : decode cX10_onBenches 45 = .ok (.iload_n 1, 1) := by decide +kernel
theorem dX10_onBenches_46 : decode cX10_onBenches 46 = .ok (.ireturn, 1) := by decide +kernel
theorem dX10_loads_0 : decode cX10_loads 0 = .ok (.aload_n 0, 1) := by decide +kernel
theorem dX10_loads_1 : decode cX10_loads 1 = .ok (.getfield 7, 3) := by decide +kernel
theorem dX10_loads_4 : decode cX10_loads 4 = .ok (.bipush 17, 2) := by decide +kernel
theorem dX10_loads_6 : decode cX10_loads 6 = .ok (.iaload, 1) := by decide +kernel
theorem dX10_loads_7 : decode cX10_loads 7 = .ok (.ifCond .le 73, 3) := by decide +kernel
theorem dX10_loads_10 : decode cX10_loads 10 = .ok (.aload_n 0, 1) := by decide +kernel
theorem dX10_loads_11 : decode cX10_loads 11 = .ok (.invokevirtual 171, 3) := by decide +kernel
theorem dX10_loads_14 : decode cX10_loads 14 = .ok (.aload_n 0, 1) := by decide +kernel
theorem dX10_loads_15 : decode cX10_loads 15 = .ok (.getfield 7, 3) := by decide +kernel
theorem dX10_loads_18 : decode cX10_loads 18 = .ok (.iconst 2, 1) := by decide +kernel
theorem dX10_loads_19 : decode cX10_loads 19 = .ok (.iaload, 1) := by decide +kernel
theorem dX10_loads_20 : decode cX10_loads 20 = .ok (.if_icmp .ge 60, 3) := by decide +kernel
theorem dX10_loads_23 : decode cX10_loads 23 = .ok (.aload_n 0, 1) := by decide +kernel
theorem dX10_loads_24 : decode cX10_loads 24 = .ok (.getfield 7, 3) := by decide +kernel
theorem dX10_loads_27 : decode cX10_loads 27 = .ok (.sipush 2012, 3) := by decide +kernel
theorem dX10_loads_30 : decode cX10_loads 30 = .ok (.iaload, 1) := by decide +kernel
theorem dX10_loads_31 : decode cX10_loads 31 = .ok (.istore_n 1, 1) := by decide +kernel
theorem dX10_loads_32 : decode cX10_loads 32 = .ok (.aload_n 0, 1) := by decide +kernel
theorem dX10_loads_33 : decode cX10_loads 33 = .ok (.sipush 2012, 3) := by decide +kernel
theorem dX10_loads_36 : decode cX10_loads 36 = .ok (.iconst 1, 1) := by decide +kernel
theorem dX10_loads_37 : decode cX10_loads 37 = .ok (.iconst 0, 1) := by decide +kernel
theorem dX10_loads_38 : decode cX10_loads 38 = .ok (.aload_n 0, 1) := by decide +kernel
theorem dX10_loads_39 : decode cX10_loads 39 = .ok (.getfield 7, 3) := by decide +kernel
theorem dX10_loads_42 : decode cX10_loads 42 = .ok (.bipush 17, 2) := by decide +kernel
theorem dX10_loads_44 : decode cX10_loads 44 = .ok (.iaload, 1) := by decide +kernel
theorem dX10_loads_45 : decode cX10_loads 45 = .ok (.invokevirtual 163, 3) := by decide +kernel
theorem dX10_loads_48 : decode cX10_loads 48 = .ok (.aload_n 0, 1) := by decide +kernel
theorem dX10_loads_49 : decode cX10_loads 49 = .ok (.getfield 7, 3) := by decide +kernel
theorem dX10_loads_52 : decode cX10_loads 52 = .ok (.bipush 17, 2) := by decide +kernel
theorem dX10_loads_54 : decode cX10_loads 54 = .ok (.dup2, 1) := by decide +kernel
theorem dX10_loads_55 : decode cX10_loads 55 = .ok (.iaload, 1) := by decide +kernel
theorem dX10_loads_56 : decode cX10_loads 56 = .ok (.iconst 1, 1) := by decide +kernel
theorem dX10_loads_57 : decode cX10_loads 57 = .ok (.isub, 1) := by decide +kernel
theorem dX10_loads_58 : decode cX10_loads 58 = .ok (.iastore, 1) := by decide +kernel
theorem dX10_loads_59 : decode cX10_loads 59 = .ok (.aload_n 0, 1) := by decide +kernel
theorem dX10_loads_60 : decode cX10_loads 60 = .ok (.iconst 2, 1) := by decide +kernel
theorem dX10_loads_61 : decode cX10_loads 61 = .ok (.iload_n 1, 1) := by decide +kernel
theorem dX10_loads_62 : decode cX10_loads 62 = .ok (.bipush (-2), 2) := by decide +kernel
theorem dX10_loads_64 : decode cX10_loads 64 = .ok (.aload_n 0, 1) := by decide +kernel
theorem dX10_loads_65 : decode cX10_loads 65 = .ok (.getfield 7, 3) := by decide +kernel
theorem dX10_loads_68 : decode cX10_loads 68 = .ok (.bipush 26, 2) := by decide +kernel
theorem dX10_loads_70 : decode cX10_loads 70 = .ok (.iload_n 1, 1) := by decide +kernel
theorem dX10_loads_71 : decode cX10_loads 71 = .ok (.iadd, 1) := by decide +kernel
theorem dX10_loads_72 : decode cX10_loads 72 = .ok (.iaload, 1) := by decide +kernel
theorem dX10_loads_73 : decode cX10_loads 73 = .ok (.invokevirtual 167, 3) := by decide +kernel
theorem dX10_loads_76 : decode cX10_loads 76 = .ok (.istore_n 2, 1) := by decide +kernel
theorem dX10_loads_77 : decode cX10_loads 77 = .ok (.goto (-77), 3) := by decide +kernel
theorem dX10_loads_80 : decode cX10_loads 80 = .ok (.return_, 1) := by decide +kernel
theorem dX10_comes_0 : decode cX10_comes 0 = .ok (.iconst 0, 1) := by decide +kernel
theorem dX10_comes_1 : decode cX10_comes 1 = .ok (.istore_n 3, 1) := by decide +kernel
theorem dX10_comes_2 : decode cX10_comes 2 = .ok (.iload_n 3, 1) := by decide +kernel
theorem dX10_comes_3 : decode cX10_comes 3 = .ok (.aload_n 0, 1) := by decide +kernel
theorem dX10_comes_4 : decode cX10_comes 4 = .ok (.getfield 7, 3) := by decide +kernel
theorem dX10_comes_7 : decode cX10_comes 7 = .ok (.bipush 14, 2) := by decide +kernel
theorem dX10_comes_9 : decode cX10_comes 9 = .ok (.iaload, 1) := by decide +kernel
theorem dX10_comes_10 : decode cX10_comes 10 = .ok (.if_icmp .ge 41, 3) := by decide +kernel
theorem dX10_comes_13 : decode cX10_comes 13 = .ok (.aload_n 0, 1) := by decide +kernel
theorem dX10_comes_14 : decode cX10_comes 14 = .ok (.getfield 7, 3) := by decide +kernel
theorem dX10_comes_17 : decode cX10_comes 17 = .ok (.bipush 92, 2) := by decide +kernel
theorem dX10_comes_19 : decode cX10_comes 19 = .ok (.iconst 4, 1) := by decide +kernel
theorem dX10_comes_20 : decode cX10_comes 20 = .ok (.iload_n 3, 1) := by decide +kernel
theorem dX10_comes_21 : decode cX10_comes 21 = .ok (.imul, 1) := by decide +kernel
theorem dX10_comes_22 : decode cX10_comes 22 = .ok (.iadd, 1) := by decide +kernel
theorem dX10_comes_23 : decode cX10_comes 23 = .ok (.iaload, 1) := by decide +kernel
theorem dX10_comes_24 : decode cX10_comes 24 = .ok (.iload_n 1, 1) := by decide +kernel
theorem dX10_comes_25 : decode cX10_comes 25 = .ok (.if_icmp .ne 20, 3) := by decide +kernel
theorem dX10_comes_28 : decode cX10_comes 28 = .ok (.aload_n 0, 1) := by decide +kernel
theorem dX10_comes_29 : decode cX10_comes 29 = .ok (.getfield 7, 3) := by decide +kernel
theorem dX10_comes_32 : decode cX10_comes 32 = .ok (.bipush 92, 2) := by decide +kernel
theorem dX10_comes_34 : decode cX10_comes 34 = .ok (.iconst 4, 1) := by decide +kernel
theorem dX10_comes_35 : decode cX10_comes 35 = .ok (.iload_n 3, 1) := by decide +kernel
theorem dX10_comes_36 : decode cX10_comes 36 = .ok (.imul, 1) := by decide +kernel
theorem dX10_comes_37 : decode cX10_comes 37 = .ok (.iadd, 1) := by decide +kernel
theorem dX10_comes_38 : decode cX10_comes 38 = .ok (.iconst 1, 1) := by decide +kernel
theorem dX10_comes_39 : decode cX10_comes 39 = .ok (.iadd, 1) := by decide +kernel
theorem dX10_comes_40 : decode cX10_comes 40 = .ok (.iaload, 1) := by decide +kernel
theorem dX10_comes_41 : decode cX10_comes 41 = .ok (.iload_n 2, 1) := by decide +kernel
theorem dX10_comes_42 : decode cX10_comes 42 = .ok (.if_icmp .eq 9, 3) := by decide +kernel
theorem dX10_comes_45 : decode cX10_comes 45 = .ok (.iinc 3 1, 3) := by decide +kernel
theorem dX10_comes_48 : decode cX10_comes 48 = .ok (.goto (-46), 3) := by decide +kernel
theorem dX10_comes_51 : decode cX10_comes 51 = .ok (.iload_n 3, 1) := by decide +kernel
theorem dX10_comes_52 : decode cX10_comes 52 = .ok (.aload_n 0, 1) := by decide +kernel
theorem dX10_comes_53 : decode cX10_comes 53 = .ok (.getfield 7, 3) := by decide +kernel
theorem dX10_comes_56 : decode cX10_comes 56 = .ok (.bipush 14, 2) := by decide +kernel
theorem dX10_comes_58 : decode cX10_comes 58 = .ok (.iaload, 1) := by decide +kernel
theorem dX10_comes_59 : decode cX10_comes 59 = .ok (.if_icmp .ne 21, 3) := by decide +kernel
theorem dX10_comes_62 : decode cX10_comes 62 = .ok (.aload_n 0, 1) := by decide +kernel
theorem dX10_comes_63 : decode cX10_comes 63 = .ok (.getfield 7, 3) := by decide +kernel
theorem dX10_comes_66 : decode cX10_comes 66 = .ok (.bipush 62, 2) := by decide +kernel
theorem dX10_comes_68 : decode cX10_comes 68 = .ok (.iload_n 1, 1) := by decide +kernel
theorem dX10_comes_69 : decode cX10_comes 69 = .ok (.iload_n 2, 1) := by decide +kernel
theorem dX10_comes_70 : decode cX10_comes 70 = .ok (.invokestatic 104, 3) := by decide +kernel
theorem dX10_comes_73 : decode cX10_comes 73 = .ok (.iadd, 1) := by decide +kernel
theorem dX10_comes_74 : decode cX10_comes 74 = .ok (.dup2, 1) := by decide +kernel
theorem dX10_comes_75 : decode cX10_comes 75 = .ok (.iaload, 1) := by decide +kernel
theorem dX10_comes_76 : decode cX10_comes 76 = .ok (.iconst 1, 1) := by decide +kernel
theorem dX10_comes_77 : decode cX10_comes 77 = .ok (.iadd, 1) := by decide +kernel
theorem dX10_comes_78 : decode cX10_comes 78 = .ok (.iastore, 1) := by decide +kernel
theorem dX10_comes_79 : decode cX10_comes 79 = .ok (.return_, 1) := by decide +kernel
theorem dX10_comes_80 : decode cX10_comes 80 = .ok (.aload_n 0, 1) := by decide +kernel
theorem dX10_comes_81 : decode cX10_comes 81 = .ok (.getfield 7, 3) := by decide +kernel
theorem dX10_comes_84 : decode cX10_comes 84 = .ok (.iconst 5, 1) := by decide +kernel
theorem dX10_comes_85 : decode cX10_comes 85 = .ok (.iaload, 1) := by decide +kernel
theorem dX10_comes_86 : decode cX10_comes 86 = .ok (.aload_n 0, 1) := by decide +kernel
theorem dX10_comes_87 : decode cX10_comes 87 = .ok (.getfield 7, 3) := by decide +kernel
theorem dX10_comes_90 : decode cX10_comes 90 = .ok (.bipush 92, 2) := by decide +kernel
theorem dX10_comes_92 : decode cX10_comes 92 = .ok (.iconst 4, 1) := by decide +kernel
theorem dX10_comes_93 : decode cX10_comes 93 = .ok (.iload_n 3, 1) := by decide +kernel
theorem dX10_comes_94 : decode cX10_comes 94 = .ok (.imul, 1) := by decide +kernel
theorem dX10_comes_95 : decode cX10_comes 95 = .ok (.iadd, 1) := by decide +kernel
theorem dX10_comes_96 : decode cX10_comes 96 = .ok (.iconst 2, 1) := by decide +kernel
theorem dX10_comes_97 : decode cX10_comes 97 = .ok (.iadd, 1) := by decide +kernel
theorem dX10_comes_98 : decode cX10_comes 98 = .ok (.iaload, 1) := by decide +kernel
theorem dX10_comes_99 : decode cX10_comes 99 = .ok (.isub, 1) := by decide +kernel
theorem dX10_comes_100 : decode cX10_comes 100 = .ok (.istore 4, 2) := by decide +kernel
theorem dX10_comes_102 : decode cX10_comes 102 = .ok (.aload_n 0, 1) := by decide +kernel
theorem dX10_comes_103 : decode cX10_comes 103 = .ok (.bipush 92, 2) := by decide +kernel
theorem dX10_comes_105 : decode cX10_comes 105 = .ok (.iconst 4, 1) := by decide +kernel
theorem dX10_comes_106 : decode cX10_comes 106 = .ok (.iload_n 3, 1) := by decide +kernel
theorem dX10_comes_107 : decode cX10_comes 107 = .ok (.aload_n 0, 1) := by decide +kernel
theorem dX10_comes_108 : decode cX10_comes 108 = .ok (.getfield 7, 3) := by decide +kernel
theorem dX10_comes_111 : decode cX10_comes 111 = .ok (.bipush 14, 2) := by decide +kernel
theorem dX10_comes_113 : decode cX10_comes 113 = .ok (.iaload, 1) := by decide +kernel
theorem dX10_comes_114 : decode cX10_comes 114 = .ok (.invokevirtual 163, 3) := by decide +kernel
theorem dX10_comes_117 : decode cX10_comes 117 = .ok (.aload_n 0, 1) := by decide +kernel
theorem dX10_comes_118 : decode cX10_comes 118 = .ok (.getfield 7, 3) := by decide +kernel
theorem dX10_comes_121 : decode cX10_comes 121 = .ok (.bipush 14, 2) := by decide +kernel
theorem dX10_comes_123 : decode cX10_comes 123 = .ok (.dup2, 1) := by decide +kernel
theorem dX10_comes_124 : decode cX10_comes 124 = .ok (.iaload, 1) := by decide +kernel
theorem dX10_comes_125 : decode cX10_comes 125 = .ok (.iconst 1, 1) := by decide +kernel
theorem dX10_comes_126 : decode cX10_comes 126 = .ok (.isub, 1) := by decide +kernel
theorem dX10_comes_127 : decode cX10_comes 127 = .ok (.iastore, 1) := by decide +kernel
theorem dX10_comes_128 : decode cX10_comes 128 = .ok (.aload_n 0, 1) := by decide +kernel
theorem dX10_comes_129 : decode cX10_comes 129 = .ok (.getfield 7, 3) := by decide +kernel
theorem dX10_comes_132 : decode cX10_comes 132 = .ok (.bipush 74, 2) := by decide +kernel
theorem dX10_comes_134 : decode cX10_comes 134 = .ok (.iload_n 1, 1) := by decide +kernel
theorem dX10_comes_135 : decode cX10_comes 135 = .ok (.iload_n 2, 1) := by decide +kernel
theorem dX10_comes_136 : decode cX10_comes 136 = .ok (.invokestatic 104, 3) := by decide +kernel
theorem dX10_comes_139 : decode cX10_comes 139 = .ok (.iadd, 1) := by decide +kernel
theorem dX10_comes_140 : decode cX10_comes 140 = .ok (.dup2, 1) := by decide +kernel
theorem dX10_comes_141 : decode cX10_comes 141 = .ok (.iaload, 1) := by decide +kernel
theorem dX10_comes_142 : decode cX10_comes 142 = .ok (.iconst 1, 1) := by decide +kernel
theorem dX10_comes_143 : decode cX10_comes 143 = .ok (.isub, 1) := by decide +kernel
theorem dX10_comes_144 : decode cX10_comes 144 = .ok (.iastore, 1) := by decide +kernel
theorem dX10_comes_145 : decode cX10_comes 145 = .ok (.aload_n 0, 1) := by decide +kernel
theorem dX10_comes_146 : decode cX10_comes 146 = .ok (.getfield 7, 3) := by decide +kernel
theorem dX10_comes_149 : decode cX10_comes 149 = .ok (.bipush 8, 2) := by decide +kernel
theorem dX10_comes_151 : decode cX10_comes 151 = .ok (.dup2, 1) := by decide +kernel
theorem dX10_comes_152 : decode cX10_comes 152 = .ok (.iaload, 1) := by decide +kernel
theorem dX10_comes_153 : decode cX10_comes 153 = .ok (.iconst 1, 1) := by decide +kernel
theorem dX10_comes_154 : decode cX10_comes 154 = .ok (.iadd, 1) := by decide +kernel
theorem dX10_comes_155 : decode cX10_comes 155 = .ok (.iastore, 1) := by decide +kernel
theorem dX10_comes_156 : decode cX10_comes 156 = .ok (.aload_n 0, 1) := by decide +kernel
theorem dX10_comes_157 : decode cX10_comes 157 = .ok (.getfield 7, 3) := by decide +kernel
theorem dX10_comes_160 : decode cX10_comes 160 = .ok (.bipush 9, 2) := by decide +kernel
theorem dX10_comes_162 : decode cX10_comes 162 = .ok (.dup2, 1) := by decide +kernel
theorem dX10_comes_163 : decode cX10_comes 163 = .ok (.iaload, 1) := by decide +kernel
theorem dX10_comes_164 : decode cX10_comes 164 = .ok (.iload 4, 2) := by decide +kernel
theorem dX10_comes_166 : decode cX10_comes 166 = .ok (.iadd, 1) := by decide +kernel
theorem dX10_comes_167 : decode cX10_comes 167 = .ok (.iastore, 1) := by decide +kernel
theorem dX10_comes_168 : decode cX10_comes 168 = .ok (.aload_n 0, 1) := by decide +kernel
theorem dX10_comes_169 : decode cX10_comes 169 = .ok (.getfield 7, 3) := by decide +kernel
theorem dX10_comes_172 : decode cX10_comes 172 = .ok (.bipush 10, 2) := by decide +kernel
theorem dX10_comes_174 : decode cX10_comes 174 = .ok (.iload 4, 2) := by decide +kernel
theorem dX10_comes_176 : decode cX10_comes 176 = .ok (.aload_n 0, 1) := by decide +kernel
theorem dX10_comes_177 : decode cX10_comes 177 = .ok (.getfield 7, 3) := by decide +kernel
theorem dX10_comes_180 : decode cX10_comes 180 = .ok (.bipush 10, 2) := by decide +kernel
theorem dX10_comes_182 : decode cX10_comes 182 = .ok (.iaload, 1) := by decide +kernel
theorem dX10_comes_183 : decode cX10_comes 183 = .ok (.if_icmp .le 8, 3) := by decide +kernel
theorem dX10_comes_186 : decode cX10_comes 186 = .ok (.iload 4, 2) := by decide +kernel
theorem dX10_comes_188 : decode cX10_comes 188 = .ok (.goto 10, 3) := by decide +kernel
theorem dX10_comes_191 : decode cX10_comes 191 = .ok (.aload_n 0, 1) := by decide +kernel
theorem dX10_comes_192 : decode cX10_comes 192 = .ok (.getfield 7, 3) := by decide +kernel
theorem dX10_comes_195 : decode cX10_comes 195 = .ok (.bipush 10, 2) := by decide +kernel
theorem dX10_comes_197 : decode cX10_comes 197 = .ok (.iaload, 1) := by decide +kernel
theorem dX10_comes_198 : decode cX10_comes 198 = .ok (.iastore, 1) := by decide +kernel
theorem dX10_comes_199 : decode cX10_comes 199 = .ok (.return_, 1) := by decide +kernel
theorem dX10_canBreak_0 : decode cX10_canBreak 0 = .ok (.aload_n 0, 1) := by decide +kernel
theorem dX10_canBreak_1 : decode cX10_canBreak 1 = .ok (.getfield 7, 3) := by decide +kernel
theorem dX10_canBreak_4 : decode cX10_canBreak 4 = .ok (.bipush 74, 2) := by decide +kernel
theorem dX10_canBreak_6 : decode cX10_canBreak 6 = .ok (.iload_n 1, 1) := by decide +kernel
theorem dX10_canBreak_7 : decode cX10_canBreak 7 = .ok (.iload_n 2, 1) := by decide +kernel
theorem dX10_canBreak_8 : decode cX10_canBreak 8 = .ok (.invokestatic 104, 3) := by decide +kernel
theorem dX10_canBreak_11 : decode cX10_canBreak 11 = .ok (.iadd, 1) := by decide +kernel
theorem dX10_canBreak_12 : decode cX10_canBreak 12 = .ok (.iaload, 1) := by decide +kernel
theorem dX10_canBreak_13 : decode cX10_canBreak 13 = .ok (.aload_n 0, 1) := by decide +kernel
theorem dX10_canBreak_14 : decode cX10_canBreak 14 = .ok (.getfield 7, 3) := by decide +kernel
theorem dX10_canBreak_17 : decode cX10_canBreak 17 = .ok (.bipush 32, 2) := by decide +kernel
theorem dX10_canBreak_19 : decode cX10_canBreak 19 = .ok (.iload_n 1, 1) := by decide +kernel
theorem dX10_canBreak_20 : decode cX10_canBreak 20 = .ok (.iload_n 2, 1) := by decide +kernel
theorem dX10_canBreak_21 : decode cX10_canBreak 21 = .ok (.invokestatic 104, 3) := by decide +kernel
theorem dX10_canBreak_24 : decode cX10_canBreak 24 = .ok (.iadd, 1) := by decide +kernel
theorem dX10_canBreak_25 : decode cX10_canBreak 25 = .ok (.iaload, 1) := by decide +kernel
theorem dX10_canBreak_26 : decode cX10_canBreak 26 = .ok (.if_icmp .ge 7, 3) := by decide +kernel
theorem dX10_canBreak_29 : decode cX10_canBreak 29 = .ok (.iconst 1, 1) := by decide +kernel
theorem dX10_canBreak_30 : decode cX10_canBreak 30 = .ok (.goto 4, 3) := by decide +kernel
theorem dX10_canBreak_33 : decode cX10_canBreak 33 = .ok (.iconst 0, 1) := by decide +kernel
theorem dX10_canBreak_34 : decode cX10_canBreak 34 = .ok (.ireturn, 1) := by decide +kernel
theorem dX10_breaksOne_0 : decode cX10_breaksOne 0 = .ok (.iload_n 1, 1) := by decide +kernel
theorem dX10_breaksOne_1 : decode cX10_breaksOne 1 = .ok (.iload_n 2, 1) := by decide +kernel
theorem dX10_breaksOne_2 : decode cX10_breaksOne 2 = .ok (.invokestatic 104, 3) := by decide +kernel
theorem dX10_breaksOne_5 : decode cX10_breaksOne 5 = .ok (.istore_n 3, 1) := by decide +kernel
theorem dX10_breaksOne_6 : decode cX10_breaksOne 6 = .ok (.aload_n 0, 1) := by decide +kernel
theorem dX10_breaksOne_7 : decode cX10_breaksOne 7 = .ok (.getfield 7, 3) := by decide +kernel
theorem dX10_breaksOne_10 : decode cX10_breaksOne 10 = .ok (.bipush 6, 2) := by decide +kernel
theorem dX10_breaksOne_12 : decode cX10_breaksOne 12 = .ok (.dup2, 1) := by decide +kernel
theorem dX10_breaksOne_13 : decode cX10_breaksOne 13 = .ok (.iaload, 1) := by decide +kernel
theorem dX10_breaksOne_14 : decode cX10_breaksOne 14 = .ok (.iconst 1, 1) := by decide +kernel
theorem dX10_breaksOne_15 : decode cX10_breaksOne 15 = .ok (.iadd, 1) := by decide +kernel
theorem dX10_breaksOne_16 : decode cX10_breaksOne 16 = .ok (.iastore, 1) := by decide +kernel
theorem dX10_breaksOne_17 : decode cX10_breaksOne 17 = .ok (.aload_n 0, 1) := by decide +kernel
theorem dX10_breaksOne_18 : decode cX10_breaksOne 18 = .ok (.getfield 7, 3) := by decide +kernel
theorem dX10_breaksOne_21 : decode cX10_breaksOne 21 = .ok (.bipush 62, 2) := by decide +kernel
theorem dX10_breaksOne_23 : decode cX10_breaksOne 23 = .ok (.iload_n 3, 1) := by decide +kernel
theorem dX10_breaksOne_24 : decode cX10_breaksOne 24 = .ok (.iadd, 1) := by decide +kernel
theorem dX10_breaksOne_25 : decode cX10_breaksOne 25 = .ok (.iaload, 1) := by decide +kernel
theorem dX10_breaksOne_26 : decode cX10_breaksOne 26 = .ok (.ifCond .le 30, 3) := by decide +kernel
theorem dX10_breaksOne_29 : decode cX10_breaksOne 29 = .ok (.aload_n 0, 1) := by decide +kernel
theorem dX10_breaksOne_30 : decode cX10_breaksOne 30 = .ok (.getfield 7, 3) := by decide +kernel
theorem dX10_breaksOne_33 : decode cX10_breaksOne 33 = .ok (.bipush 62, 2) := by decide +kernel
theorem dX10_breaksOne_35 : decode cX10_breaksOne 35 = .ok (.iload_n 3, 1) := by decide +kernel
theorem dX10_breaksOne_36 : decode cX10_breaksOne 36 = .ok (.iadd, 1) := by decide +kernel
theorem dX10_breaksOne_37 : decode cX10_breaksOne 37 = .ok (.dup2, 1) := by decide +kernel
theorem dX10_breaksOne_38 : decode cX10_breaksOne 38 = .ok (.iaload, 1) := by decide +kernel
theorem dX10_breaksOne_39 : decode cX10_breaksOne 39 = .ok (.iconst 1, 1) := by decide +kernel
theorem dX10_breaksOne_40 : decode cX10_breaksOne 40 = .ok (.isub, 1) := by decide +kernel
theorem dX10_breaksOne_41 : decode cX10_breaksOne 41 = .ok (.iastore, 1) := by decide +kernel
theorem dX10_breaksOne_42 : decode cX10_breaksOne 42 = .ok (.aload_n 0, 1) := by decide +kernel
theorem dX10_breaksOne_43 : decode cX10_breaksOne 43 = .ok (.getfield 7, 3) := by decide +kernel
theorem dX10_breaksOne_46 : decode cX10_breaksOne 46 = .ok (.bipush 7, 2) := by decide +kernel
theorem dX10_breaksOne_48 : decode cX10_breaksOne 48 = .ok (.dup2, 1) := by decide +kernel
theorem dX10_breaksOne_49 : decode cX10_breaksOne 49 = .ok (.iaload, 1) := by decide +kernel
theorem dX10_breaksOne_50 : decode cX10_breaksOne 50 = .ok (.iconst 1, 1) := by decide +kernel
theorem dX10_breaksOne_51 : decode cX10_breaksOne 51 = .ok (.iadd, 1) := by decide +kernel
theorem dX10_breaksOne_52 : decode cX10_breaksOne 52 = .ok (.iastore, 1) := by decide +kernel
theorem dX10_breaksOne_53 : decode cX10_breaksOne 53 = .ok (.goto 84, 3) := by decide +kernel
theorem dX10_breaksOne_56 : decode cX10_breaksOne 56 = .ok (.bipush 92, 2) := by decide +kernel
theorem dX10_breaksOne_58 : decode cX10_breaksOne 58 = .ok (.iconst 4, 1) := by decide +kernel
theorem dX10_breaksOne_59 : decode cX10_breaksOne 59 = .ok (.aload_n 0, 1) := by decide +kernel
theorem dX10_breaksOne_60 : decode cX10_breaksOne 60 = .ok (.getfield 7, 3) := by decide +kernel
theorem dX10_breaksOne_63 : decode cX10_breaksOne 63 = .ok (.bipush 14, 2) := by decide +kernel
theorem dX10_breaksOne_65 : decode cX10_breaksOne 65 = .ok (.iaload, 1) := by decide +kernel
theorem dX10_breaksOne_66 : decode cX10_breaksOne 66 = .ok (.imul, 1) := by decide +kernel
theorem dX10_breaksOne_67 : decode cX10_breaksOne 67 = .ok (.iadd, 1) := by decide +kernel
theorem dX10_breaksOne_68 : decode cX10_breaksOne 68 = .ok (.istore 4, 2) := by decide +kernel
theorem dX10_breaksOne_70 : decode cX10_breaksOne 70 = .ok (.aload_n 0, 1) := by decide +kernel
theorem dX10_breaksOne_71 : decode cX10_breaksOne 71 = .ok (.getfield 7, 3) := by decide +kernel
theorem dX10_breaksOne_74 : decode cX10_breaksOne 74 = .ok (.iload 4, 2) := by decide +kernel
theorem dX10_breaksOne_76 : decode cX10_breaksOne 76 = .ok (.iload_n 1, 1) := by decide +kernel
theorem dX10_breaksOne_77 : decode cX10_breaksOne 77 = .ok (.iastore, 1) := by decide +kernel
theorem dX10_breaksOne_78 : decode cX10_breaksOne 78 = .ok (.aload_n 0, 1) := by decide +kernel
theorem dX10_breaksOne_79 : decode cX10_breaksOne 79 = .ok (.getfield 7, 3) := by decide +kernel
theorem dX10_breaksOne_82 : decode cX10_breaksOne 82 = .ok (.iload 4, 2) := by decide +kernel
theorem dX10_breaksOne_84 : decode cX10_breaksOne 84 = .ok (.iconst 1, 1) := by decide +kernel
theorem dX10_breaksOne_85 : decode cX10_breaksOne 85 = .ok (.iadd, 1) := by decide +kernel
theorem dX10_breaksOne_86 : decode cX10_breaksOne 86 = .ok (.iload_n 2, 1) := by decide +kernel
theorem dX10_breaksOne_87 : decode cX10_breaksOne 87 = .ok (.iastore, 1) := by decide +kernel
theorem dX10_breaksOne_88 : decode cX10_breaksOne 88 = .ok (.aload_n 0, 1) := by decide +kernel
theorem dX10_breaksOne_89 : decode cX10_breaksOne 89 = .ok (.getfield 7, 3) := by decide +kernel
theorem dX10_breaksOne_92 : decode cX10_breaksOne 92 = .ok (.iload 4, 2) := by decide +kernel
theorem dX10_breaksOne_94 : decode cX10_breaksOne 94 = .ok (.iconst 2, 1) := by decide +kernel
theorem dX10_breaksOne_95 : decode cX10_breaksOne 95 = .ok (.iadd, 1) := by decide +kernel
theorem dX10_breaksOne_96 : decode cX10_breaksOne 96 = .ok (.aload_n 0, 1) := by decide +kernel
theorem dX10_breaksOne_97 : decode cX10_breaksOne 97 = .ok (.getfield 7, 3) := by decide +kernel
theorem dX10_breaksOne_100 : decode cX10_breaksOne 100 = .ok (.iconst 5, 1) := by decide +kernel
theorem dX10_breaksOne_101 : decode cX10_breaksOne 101 = .ok (.iaload, 1) := by decide +kernel
theorem dX10_breaksOne_102 : decode cX10_breaksOne 102 = .ok (.iastore, 1) := by decide +kernel
theorem dX10_breaksOne_103 : decode cX10_breaksOne 103 = .ok (.aload_n 0, 1) := by decide +kernel
theorem dX10_breaksOne_104 : decode cX10_breaksOne 104 = .ok (.getfield 7, 3) := by decide +kernel
theorem dX10_breaksOne_107 : decode cX10_breaksOne 107 = .ok (.iload 4, 2) := by decide +kernel
theorem dX10_breaksOne_109 : decode cX10_breaksOne 109 = .ok (.iconst 3, 1) := by decide +kernel
theorem dX10_breaksOne_110 : decode cX10_breaksOne 110 = .ok (.iadd, 1) := by decide +kernel
theorem dX10_breaksOne_111 : decode cX10_breaksOne 111 = .ok (.iconst 0, 1) := by decide +kernel
theorem dX10_breaksOne_112 : decode cX10_breaksOne 112 = .ok (.iastore, 1) := by decide +kernel
theorem dX10_breaksOne_113 : decode cX10_breaksOne 113 = .ok (.aload_n 0, 1) := by decide +kernel
theorem dX10_breaksOne_114 : decode cX10_breaksOne 114 = .ok (.getfield 7, 3) := by decide +kernel
theorem dX10_breaksOne_117 : decode cX10_breaksOne 117 = .ok (.bipush 14, 2) := by decide +kernel
theorem dX10_breaksOne_119 : decode cX10_breaksOne 119 = .ok (.dup2, 1) := by decide +kernel
theorem dX10_breaksOne_120 : decode cX10_breaksOne 120 = .ok (.iaload, 1) := by decide +kernel
theorem dX10_breaksOne_121 : decode cX10_breaksOne 121 = .ok (.iconst 1, 1) := by decide +kernel
theorem dX10_breaksOne_122 : decode cX10_breaksOne 122 = .ok (.iadd, 1) := by decide +kernel
theorem dX10_breaksOne_123 : decode cX10_breaksOne 123 = .ok (.iastore, 1) := by decide +kernel
theorem dX10_breaksOne_124 : decode cX10_breaksOne 124 = .ok (.aload_n 0, 1) := by decide +kernel
theorem dX10_breaksOne_125 : decode cX10_breaksOne 125 = .ok (.getfield 7, 3) := by decide +kernel
theorem dX10_breaksOne_128 : decode cX10_breaksOne 128 = .ok (.bipush 74, 2) := by decide +kernel
theorem dX10_breaksOne_130 : decode cX10_breaksOne 130 = .ok (.iload_n 3, 1) := by decide +kernel
theorem dX10_breaksOne_131 : decode cX10_breaksOne 131 = .ok (.iadd, 1) := by decide +kernel
theorem dX10_breaksOne_132 : decode cX10_breaksOne 132 = .ok (.dup2, 1) := by decide +kernel
theorem dX10_breaksOne_133 : decode cX10_breaksOne 133 = .ok (.iaload, 1) := by decide +kernel
theorem dX10_breaksOne_134 : decode cX10_breaksOne 134 = .ok (.iconst 1, 1) := by decide +kernel
theorem dX10_breaksOne_135 : decode cX10_breaksOne 135 = .ok (.iadd, 1) := by decide +kernel
theorem dX10_breaksOne_136 : decode cX10_breaksOne 136 = .ok (.iastore, 1) := by decide +kernel
theorem dX10_breaksOne_137 : decode cX10_breaksOne 137 = .ok (.aload_n 0, 1) := by decide +kernel
theorem dX10_breaksOne_138 : decode cX10_breaksOne 138 = .ok (.getfield 7, 3) := by decide +kernel
theorem dX10_breaksOne_141 : decode cX10_breaksOne 141 = .ok (.bipush 23, 2) := by decide +kernel
theorem dX10_breaksOne_143 : decode cX10_breaksOne 143 = .ok (.iload_n 2, 1) := by decide +kernel
theorem dX10_breaksOne_144 : decode cX10_breaksOne 144 = .ok (.iadd, 1) := by decide +kernel
theorem dX10_breaksOne_145 : decode cX10_breaksOne 145 = .ok (.iaload, 1) := by decide +kernel
theorem dX10_breaksOne_146 : decode cX10_breaksOne 146 = .ok (.ifCond .le 20, 3) := by decide +kernel
theorem dX10_breaksOne_149 : decode cX10_breaksOne 149 = .ok (.aload_n 0, 1) := by decide +kernel
theorem dX10_breaksOne_150 : decode cX10_breaksOne 150 = .ok (.iconst 0, 1) := by decide +kernel
theorem dX10_breaksOne_151 : decode cX10_breaksOne 151 = .ok (.iload_n 2, 1) := by decide +kernel
theorem dX10_breaksOne_152 : decode cX10_breaksOne 152 = .ok (.iload_n 1, 1) := by decide +kernel
theorem dX10_breaksOne_153 : decode cX10_breaksOne 153 = .ok (.aload_n 0, 1) := by decide +kernel
theorem dX10_breaksOne_154 : decode cX10_breaksOne 154 = .ok (.getfield 7, 3) := by decide +kernel
theorem dX10_breaksOne_157 : decode cX10_breaksOne 157 = .ok (.bipush 23, 2) := by decide +kernel
theorem dX10_breaksOne_159 : decode cX10_breaksOne 159 = .ok (.iload_n 2, 1) := by decide +kernel
theorem dX10_breaksOne_160 : decode cX10_breaksOne 160 = .ok (.iadd, 1) := by decide +kernel
theorem dX10_breaksOne_161 : decode cX10_breaksOne 161 = .ok (.iaload, 1) := by decide +kernel
theorem dX10_breaksOne_162 : decode cX10_breaksOne 162 = .ok (.invokevirtual 167, 3) := by decide +kernel
theorem dX10_breaksOne_165 : decode cX10_breaksOne 165 = .ok (.ireturn, 1) := by decide +kernel
theorem dX10_breaksOne_166 : decode cX10_breaksOne 166 = .ok (.aload_n 0, 1) := by decide +kernel
theorem dX10_breaksOne_167 : decode cX10_breaksOne 167 = .ok (.iconst 1, 1) := by decide +kernel
theorem dX10_breaksOne_168 : decode cX10_breaksOne 168 = .ok (.iload_n 2, 1) := by decide +kernel
theorem dX10_breaksOne_169 : decode cX10_breaksOne 169 = .ok (.iload_n 1, 1) := by decide +kernel
theorem dX10_breaksOne_170 : decode cX10_breaksOne 170 = .ok (.aload_n 0, 1) := by decide +kernel
theorem dX10_breaksOne_171 : decode cX10_breaksOne 171 = .ok (.getfield 7, 3) := by decide +kernel
theorem dX10_breaksOne_174 : decode cX10_breaksOne 174 = .ok (.bipush 29, 2) := by decide +kernel
theorem dX10_breaksOne_176 : decode cX10_breaksOne 176 = .ok (.iload_n 1, 1) := by decide +kernel
theorem dX10_breaksOne_177 : decode cX10_breaksOne 177 = .ok (.iadd, 1) := by decide +kernel
theorem dX10_breaksOne_178 : decode cX10_breaksOne 178 = .ok (.iaload, 1) := by decide +kernel
theorem dX10_breaksOne_179 : decode cX10_breaksOne 179 = .ok (.invokevirtual 167, 3) := by decide +kernel
theorem dX10_breaksOne_182 : decode cX10_breaksOne 182 = .ok (.istore 4, 2) := by decide +kernel
theorem dX10_breaksOne_184 : decode cX10_breaksOne 184 = .ok (.sipush 412, 3) := by decide +kernel
theorem dX10_breaksOne_187 : decode cX10_breaksOne 187 = .ok (.iconst 3, 1) := by decide +kernel
theorem dX10_breaksOne_188 : decode cX10_breaksOne 188 = .ok (.aload_n 0, 1) := by decide +kernel
theorem dX10_breaksOne_189 : decode cX10_breaksOne 189 = .ok (.getfield 7, 3) := by decide +kernel
theorem dX10_breaksOne_192 : decode cX10_breaksOne 192 = .ok (.bipush 15, 2) := by decide +kernel
theorem dX10_breaksOne_194 : decode cX10_breaksOne 194 = .ok (.iaload, 1) := by decide +kernel
theorem dX10_breaksOne_195 : decode cX10_breaksOne 195 = .ok (.imul, 1) := by decide +kernel
theorem dX10_breaksOne_196 : decode cX10_breaksOne 196 = .ok (.iadd, 1) := by decide +kernel
theorem dX10_breaksOne_197 : decode cX10_breaksOne 197 = .ok (.istore 5, 2) := by decide +kernel
theorem dX10_breaksOne_199 : decode cX10_breaksOne 199 = .ok (.aload_n 0, 1) := by decide +kernel
theorem dX10_breaksOne_200 : decode cX10_breaksOne 200 = .ok (.getfield 7, 3) := by decide +kernel
theorem dX10_breaksOne_203 : decode cX10_breaksOne 203 = .ok (.iload 5, 2) := by decide +kernel
theorem dX10_breaksOne_205 : decode cX10_breaksOne 205 = .ok (.iload_n 1, 1) := by decide +kernel
theorem dX10_breaksOne_206 : decode cX10_breaksOne 206 = .ok (.iastore, 1) := by decide +kernel
theorem dX10_breaksOne_207 : decode cX10_breaksOne 207 = .ok (.aload_n 0, 1) := by decide +kernel
theorem dX10_breaksOne_208 : decode cX10_breaksOne 208 = .ok (.getfield 7, 3) := by decide +kernel
theorem dX10_breaksOne_211 : decode cX10_breaksOne 211 = .ok (.iload 5, 2) := by decide +kernel
theorem dX10_breaksOne_213 : decode cX10_breaksOne 213 = .ok (.iconst 1, 1) := by decide +kernel
theorem dX10_breaksOne_214 : decode cX10_breaksOne 214 = .ok (.iadd, 1) := by decide +kernel
theorem dX10_breaksOne_215 : decode cX10_breaksOne 215 = .ok (.iload_n 2, 1) := by decide +kernel
theorem dX10_breaksOne_216 : decode cX10_breaksOne 216 = .ok (.iastore, 1) := by decide +kernel
theorem dX10_breaksOne_217 : decode cX10_breaksOne 217 = .ok (.aload_n 0, 1) := by decide +kernel
theorem dX10_breaksOne_218 : decode cX10_breaksOne 218 = .ok (.getfield 7, 3) := by decide +kernel
theorem dX10_breaksOne_221 : decode cX10_breaksOne 221 = .ok (.iload 5, 2) := by decide +kernel
theorem dX10_breaksOne_223 : decode cX10_breaksOne 223 = .ok (.iconst 2, 1) := by decide +kernel
theorem dX10_breaksOne_224 : decode cX10_breaksOne 224 = .ok (.iadd, 1) := by decide +kernel
theorem dX10_breaksOne_225 : decode cX10_breaksOne 225 = .ok (.aload_n 0, 1) := by decide +kernel
theorem dX10_breaksOne_226 : decode cX10_breaksOne 226 = .ok (.getfield 7, 3) := by decide +kernel
theorem dX10_breaksOne_229 : decode cX10_breaksOne 229 = .ok (.iconst 5, 1) := by decide +kernel
theorem dX10_breaksOne_230 : decode cX10_breaksOne 230 = .ok (.iaload, 1) := by decide +kernel
theorem dX10_breaksOne_231 : decode cX10_breaksOne 231 = .ok (.iastore, 1) := by decide +kernel
theorem dX10_breaksOne_232 : decode cX10_breaksOne 232 = .ok (.aload_n 0, 1) := by decide +kernel
theorem dX10_breaksOne_233 : decode cX10_breaksOne 233 = .ok (.getfield 7, 3) := by decide +kernel
theorem dX10_breaksOne_236 : decode cX10_breaksOne 236 = .ok (.bipush 15, 2) := by decide +kernel
theorem dX10_breaksOne_238 : decode cX10_breaksOne 238 = .ok (.dup2, 1) := by decide +kernel
theorem dX10_breaksOne_239 : decode cX10_breaksOne 239 = .ok (.iaload, 1) := by decide +kernel
theorem dX10_breaksOne_240 : decode cX10_breaksOne 240 = .ok (.iconst 1, 1) := by decide +kernel
theorem dX10_breaksOne_241 : decode cX10_breaksOne 241 = .ok (.iadd, 1) := by decide +kernel
theorem dX10_breaksOne_242 : decode cX10_breaksOne 242 = .ok (.iastore, 1) := by decide +kernel
theorem dX10_breaksOne_243 : decode cX10_breaksOne 243 = .ok (.aload_n 0, 1) := by decide +kernel
theorem dX10_breaksOne_244 : decode cX10_breaksOne 244 = .ok (.iload_n 2, 1) := by decide +kernel
theorem dX10_breaksOne_245 : decode cX10_breaksOne 245 = .ok (.invokevirtual 175, 3) := by decide +kernel
theorem dX10_breaksOne_248 : decode cX10_breaksOne 248 = .ok (.iload 4, 2) := by decide +kernel
theorem dX10_breaksOne_250 : decode cX10_breaksOne 250 = .ok (.ireturn, 1) := by decide +kernel
theorem dX10_today_0 : decode cX10_today 0 = .ok (.iconst (-1), 1) := by decide +kernel
theorem dX10_today_1 : decode cX10_today 1 = .ok (.istore_n 1, 1) := by decide +kernel
theorem dX10_today_2 : decode cX10_today 2 = .ok (.iconst 0, 1) := by decide +kernel
theorem dX10_today_3 : decode cX10_today 3 = .ok (.istore_n 2, 1) := by decide +kernel
theorem dX10_today_4 : decode cX10_today 4 = .ok (.iload_n 2, 1) := by decide +kernel
theorem dX10_today_5 : decode cX10_today 5 = .ok (.aload_n 0, 1) := by decide +kernel
theorem dX10_today_6 : decode cX10_today 6 = .ok (.getfield 7, 3) := by decide +kernel
theorem dX10_today_9 : decode cX10_today 9 = .ok (.bipush 16, 2) := by decide +kernel
theorem dX10_today_11 : decode cX10_today 11 = .ok (.iaload, 1) := by decide +kernel
theorem dX10_today_12 : decode cX10_today 12 = .ok (.if_icmp .ge 70, 3) := by decide +kernel
theorem dX10_today_15 : decode cX10_today 15 = .ok (.aload_n 0, 1) := by decide +kernel
theorem dX10_today_16 : decode cX10_today 16 = .ok (.getfield 7, 3) := by decide +kernel
theorem dX10_today_19 : decode cX10_today 19 = .ok (.sipush 1012, 3) := by decide +kernel
theorem dX10_today_22 : decode cX10_today 22 = .ok (.iconst 5, 1) := by decide +kernel
theorem dX10_today_23 : decode cX10_today 23 = .ok (.iload_n 2, 1) := by decide +kernel
theorem dX10_today_24 : decode cX10_today 24 = .ok (.imul, 1) := by decide +kernel
theorem dX10_today_25 : decode cX10_today 25 = .ok (.iadd, 1) := by decide +kernel
theorem dX10_today_26 : decode cX10_today 26 = .ok (.iconst 4, 1) := by decide +kernel
theorem dX10_today_27 : decode cX10_today 27 = .ok (.iadd, 1) := by decide +kernel
theorem dX10_today_28 : decode cX10_today 28 = .ok (.iaload, 1) := by decide +kernel
theorem dX10_today_29 : decode cX10_today 29 = .ok (.aload_n 0, 1) := by decide +kernel
theorem dX10_today_30 : decode cX10_today 30 = .ok (.getfield 7, 3) := by decide +kernel
theorem dX10_today_33 : decode cX10_today 33 = .ok (.iconst 5, 1) := by decide +kernel
theorem dX10_today_34 : decode cX10_today 34 = .ok (.iaload, 1) := by decide +kernel
theorem dX10_today_35 : decode cX10_today 35 = .ok (.if_icmp .ne 41, 3) := by decide +kernel
theorem dX10_today_38 : decode cX10_today 38 = .ok (.iload_n 1, 1) := by decide +kernel
theorem dX10_today_39 : decode cX10_today 39 = .ok (.iconst (-1), 1) := by decide +kernel
theorem dX10_today_40 : decode cX10_today 40 = .ok (.if_icmp .eq 34, 3) := by decide +kernel
theorem dX10_today_43 : decode cX10_today 43 = .ok (.aload_n 0, 1) := by decide +kernel
theorem dX10_today_44 : decode cX10_today 44 = .ok (.getfield 7, 3) := by decide +kernel
theorem dX10_today_47 : decode cX10_today 47 = .ok (.sipush 1012, 3) := by decide +kernel
theorem dX10_today_50 : decode cX10_today 50 = .ok (.iconst 5, 1) := by decide +kernel
theorem dX10_today_51 : decode cX10_today 51 = .ok (.iload_n 2, 1) := by decide +kernel
theorem dX10_today_52 : decode cX10_today 52 = .ok (.imul, 1) := by decide +kernel
theorem dX10_today_53 : decode cX10_today 53 = .ok (.iadd, 1) := by decide +kernel
theorem dX10_today_54 : decode cX10_today 54 = .ok (.iconst 1, 1) := by decide +kernel
theorem dX10_today_55 : decode cX10_today 55 = .ok (.iadd, 1) := by decide +kernel
theorem dX10_today_56 : decode cX10_today 56 = .ok (.iaload, 1) := by decide +kernel
theorem dX10_today_57 : decode cX10_today 57 = .ok (.aload_n 0, 1) := by decide +kernel
theorem dX10_today_58 : decode cX10_today 58 = .ok (.getfield 7, 3) := by decide +kernel
theorem dX10_today_61 : decode cX10_today 61 = .ok (.sipush 1012, 3) := by decide +kernel
theorem dX10_today_64 : decode cX10_today 64 = .ok (.iconst 5, 1) := by decide +kernel
theorem dX10_today_65 : decode cX10_today 65 = .ok (.iload_n 1, 1) := by decide +kernel
theorem dX10_today_66 : decode cX10_today 66 = .ok (.imul, 1) := by decide +kernel
theorem dX10_today_67 : decode cX10_today 67 = .ok (.iadd, 1) := by decide +kernel
theorem dX10_today_68 : decode cX10_today 68 = .ok (.iconst 1, 1) := by decide +kernel
theorem dX10_today_69 : decode cX10_today 69 = .ok (.iadd, 1) := by decide +kernel
theorem dX10_today_70 : decode cX10_today 70 = .ok (.iaload, 1) := by decide +kernel
theorem dX10_today_71 : decode cX10_today 71 = .ok (.if_icmp .ge 5, 3) := by decide +kernel
theorem dX10_today_74 : decode cX10_today 74 = .ok (.iload_n 2, 1) := by decide +kernel
theorem dX10_today_75 : decode cX10_today 75 = .ok (.istore_n 1, 1) := by decide +kernel
theorem dX10_today_76 : decode cX10_today 76 = .ok (.iinc 2 1, 3) := by decide +kernel
theorem dX10_today_79 : decode cX10_today 79 = .ok (.goto (-75), 3) := by decide +kernel
theorem dX10_today_82 : decode cX10_today 82 = .ok (.iload_n 1, 1) := by decide +kernel
theorem dX10_today_83 : decode cX10_today 83 = .ok (.ireturn, 1) := by decide +kernel
theorem dX10_arrives_0 : decode cX10_arrives 0 = .ok (.aload_n 0, 1) := by decide +kernel
theorem dX10_arrives_1 : decode cX10_arrives 1 = .ok (.getfield 7, 3) := by decide +kernel
theorem dX10_arrives_4 : decode cX10_arrives 4 = .ok (.sipush 1012, 3) := by decide +kernel
theorem dX10_arrives_7 : decode cX10_arrives 7 = .ok (.iconst 5, 1) := by decide +kernel
theorem dX10_arrives_8 : decode cX10_arrives 8 = .ok (.iload_n 1, 1) := by decide +kernel
theorem dX10_arrives_9 : decode cX10_arrives 9 = .ok (.imul, 1) := by decide +kernel
theorem dX10_arrives_10 : decode cX10_arrives 10 = .ok (.iadd, 1) := by decide +kernel
theorem dX10_arrives_11 : decode cX10_arrives 11 = .ok (.iaload, 1) := by decide +kernel
theorem dX10_arrives_12 : decode cX10_arrives 12 = .ok (.istore_n 2, 1) := by decide +kernel
theorem dX10_arrives_13 : decode cX10_arrives 13 = .ok (.aload_n 0, 1) := by decide +kernel
theorem dX10_arrives_14 : decode cX10_arrives 14 = .ok (.getfield 7, 3) := by decide +kernel
theorem dX10_arrives_17 : decode cX10_arrives 17 = .ok (.sipush 1012, 3) := by decide +kernel
theorem dX10_arrives_20 : decode cX10_arrives 20 = .ok (.iconst 5, 1) := by decide +kernel
theorem dX10_arrives_21 : decode cX10_arrives 21 = .ok (.iload_n 1, 1) := by decide +kernel
theorem dX10_arrives_22 : decode cX10_arrives 22 = .ok (.imul, 1) := by decide +kernel
theorem dX10_arrives_23 : decode cX10_arrives 23 = .ok (.iadd, 1) := by decide +kernel
theorem dX10_arrives_24 : decode cX10_arrives 24 = .ok (.iconst 2, 1) := by decide +kernel
theorem dX10_arrives_25 : decode cX10_arrives 25 = .ok (.iadd, 1) := by decide +kernel
theorem dX10_arrives_26 : decode cX10_arrives 26 = .ok (.iaload, 1) := by decide +kernel
theorem dX10_arrives_27 : decode cX10_arrives 27 = .ok (.istore_n 3, 1) := by decide +kernel
theorem dX10_arrives_28 : decode cX10_arrives 28 = .ok (.aload_n 0, 1) := by decide +kernel
theorem dX10_arrives_29 : decode cX10_arrives 29 = .ok (.getfield 7, 3) := by decide +kernel
theorem dX10_arrives_32 : decode cX10_arrives 32 = .ok (.sipush 1012, 3) := by decide +kernel
theorem dX10_arrives_35 : decode cX10_arrives 35 = .ok (.iconst 5, 1) := by decide +kernel
theorem dX10_arrives_36 : decode cX10_arrives 36 = .ok (.iload_n 1, 1) := by decide +kernel
theorem dX10_arrives_37 : decode cX10_arrives 37 = .ok (.imul, 1) := by decide +kernel
theorem dX10_arrives_38 : decode cX10_arrives 38 = .ok (.iadd, 1) := by decide +kernel
theorem dX10_arrives_39 : decode cX10_arrives 39 = .ok (.iconst 3, 1) := by decide +kernel
theorem dX10_arrives_40 : decode cX10_arrives 40 = .ok (.iadd, 1) := by decide +kernel
theorem dX10_arrives_41 : decode cX10_arrives 41 = .ok (.iaload, 1) := by decide +kernel
theorem dX10_arrives_42 : decode cX10_arrives 42 = .ok (.istore 4, 2) := by decide +kernel
theorem dX10_arrives_44 : decode cX10_arrives 44 = .ok (.aload_n 0, 1) := by decide +kernel
theorem dX10_arrives_45 : decode cX10_arrives 45 = .ok (.sipush 1012, 3) := by decide +kernel
theorem dX10_arrives_48 : decode cX10_arrives 48 = .ok (.iconst 5, 1) := by decide +kernel
theorem dX10_arrives_49 : decode cX10_arrives 49 = .ok (.iload_n 1, 1) := by decide +kernel
theorem dX10_arrives_50 : decode cX10_arrives 50 = .ok (.aload_n 0, 1) := by decide +kernel
theorem dX10_arrives_51 : decode cX10_arrives 51 = .ok (.getfield 7, 3) := by decide +kernel
theorem dX10_arrives_54 : decode cX10_arrives 54 = .ok (.bipush 16, 2) := by decide +kernel
theorem dX10_arrives_56 : decode cX10_arrives 56 = .ok (.iaload, 1) := by decide +kernel
theorem dX10_arrives_57 : decode cX10_arrives 57 = .ok (.invokevirtual 163, 3) := by decide +kernel
theorem dX10_arrives_60 : decode cX10_arrives 60 = .ok (.aload_n 0, 1) := by decide +kernel
theorem dX10_arrives_61 : decode cX10_arrives 61 = .ok (.getfield 7, 3) := by decide +kernel
theorem dX10_arrives_64 : decode cX10_arrives 64 = .ok (.bipush 16, 2) := by decide +kernel
theorem dX10_arrives_66 : decode cX10_arrives 66 = .ok (.dup2, 1) := by decide +kernel
theorem dX10_arrives_67 : decode cX10_arrives 67 = .ok (.iaload, 1) := by decide +kernel
theorem dX10_arrives_68 : decode cX10_arrives 68 = .ok (.iconst 1, 1) := by decide +kernel
theorem dX10_arrives_69 : decode cX10_arrives 69 = .ok (.isub, 1) := by decide +kernel
theorem dX10_arrives_70 : decode cX10_arrives 70 = .ok (.iastore, 1) := by decide +kernel
theorem dX10_arrives_71 : decode cX10_arrives 71 = .ok (.iload_n 2, 1) := by decide +kernel
theorem dX10_arrives_72 : decode cX10_arrives 72 = .ok (.iconst 1, 1) := by decide +kernel
theorem dX10_arrives_73 : decode cX10_arrives 73 = .ok (.if_icmp .ne 38, 3) := by decide +kernel
theorem dX10_arrives_76 : decode cX10_arrives 76 = .ok (.aload_n 0, 1) := by decide +kernel
theorem dX10_arrives_77 : decode cX10_arrives 77 = .ok (.getfield 7, 3) := by decide +kernel
theorem dX10_arrives_80 : decode cX10_arrives 80 = .ok (.sipush 2012, 3) := by decide +kernel
theorem dX10_arrives_83 : decode cX10_arrives 83 = .ok (.aload_n 0, 1) := by decide +kernel
theorem dX10_arrives_84 : decode cX10_arrives 84 = .ok (.getfield 7, 3) := by decide +kernel
theorem dX10_arrives_87 : decode cX10_arrives 87 = .ok (.bipush 17, 2) := by decide +kernel
theorem dX10_arrives_89 : decode cX10_arrives 89 = .ok (.iaload, 1) := by decide +kernel
theorem dX10_arrives_90 : decode cX10_arrives 90 = .ok (.iadd, 1) := by decide +kernel
theorem dX10_arrives_91 : decode cX10_arrives 91 = .ok (.iload_n 3, 1) := by decide +kernel
theorem dX10_arrives_92 : decode cX10_arrives 92 = .ok (.iastore, 1) := by decide +kernel
theorem dX10_arrives_93 : decode cX10_arrives 93 = .ok (.aload_n 0, 1) := by decide +kernel
theorem dX10_arrives_94 : decode cX10_arrives 94 = .ok (.getfield 7, 3) := by decide +kernel
theorem dX10_arrives_97 : decode cX10_arrives 97 = .ok (.bipush 17, 2) := by decide +kernel
theorem dX10_arrives_99 : decode cX10_arrives 99 = .ok (.dup2, 1) := by decide +kernel
theorem dX10_arrives_100 : decode cX10_arrives 100 = .ok (.iaload, 1) := by decide +kernel
theorem dX10_arrives_101 : decode cX10_arrives 101 = .ok (.iconst 1, 1) := by decide +kernel
theorem dX10_arrives_102 : decode cX10_arrives 102 = .ok (.iadd, 1) := by decide +kernel
theorem dX10_arrives_103 : decode cX10_arrives 103 = .ok (.iastore, 1) := by decide +kernel
theorem dX10_arrives_104 : decode cX10_arrives 104 = .ok (.aload_n 0, 1) := by decide +kernel
theorem dX10_arrives_105 : decode cX10_arrives 105 = .ok (.invokevirtual 178, 3) := by decide +kernel
theorem dX10_arrives_108 : decode cX10_arrives 108 = .ok (.goto 40, 3) := by decide +kernel
theorem dX10_arrives_111 : decode cX10_arrives 111 = .ok (.iload_n 2, 1) := by decide +kernel
theorem dX10_arrives_112 : decode cX10_arrives 112 = .ok (.iconst 2, 1) := by decide +kernel
theorem dX10_arrives_113 : decode cX10_arrives 113 = .ok (.if_icmp .ne 28, 3) := by decide +kernel
theorem dX10_arrives_116 : decode cX10_arrives 116 = .ok (.aload_n 0, 1) := by decide +kernel
theorem dX10_arrives_117 : decode cX10_arrives 117 = .ok (.getfield 7, 3) := by decide +kernel
theorem dX10_arrives_120 : decode cX10_arrives 120 = .ok (.bipush 71, 2) := by decide +kernel
theorem dX10_arrives_122 : decode cX10_arrives 122 = .ok (.iload_n 3, 1) := by decide +kernel
theorem dX10_arrives_123 : decode cX10_arrives 123 = .ok (.iadd, 1) := by decide +kernel
theorem dX10_arrives_124 : decode cX10_arrives 124 = .ok (.dup2, 1) := by decide +kernel
theorem dX10_arrives_125 : decode cX10_arrives 125 = .ok (.iaload, 1) := by decide +kernel
theorem dX10_arrives_126 : decode cX10_arrives 126 = .ok (.iconst 1, 1) := by decide +kernel
theorem dX10_arrives_127 : decode cX10_arrives 127 = .ok (.iadd, 1) := by decide +kernel
theorem dX10_arrives_128 : decode cX10_arrives 128 = .ok (.iastore, 1) := by decide +kernel
theorem dX10_arrives_129 : decode cX10_arrives 129 = .ok (.aload_n 0, 1) := by decide +kernel
theorem dX10_arrives_130 : decode cX10_arrives 130 = .ok (.iload_n 3, 1) := by decide +kernel
theorem dX10_arrives_131 : decode cX10_arrives 131 = .ok (.invokevirtual 175, 3) := by decide +kernel
theorem dX10_arrives_134 : decode cX10_arrives 134 = .ok (.aload_n 0, 1) := by decide +kernel
theorem dX10_arrives_135 : decode cX10_arrives 135 = .ok (.invokevirtual 178, 3) := by decide +kernel
theorem dX10_arrives_138 : decode cX10_arrives 138 = .ok (.goto 10, 3) := by decide +kernel
theorem dX10_arrives_141 : decode cX10_arrives 141 = .ok (.aload_n 0, 1) := by decide +kernel
theorem dX10_arrives_142 : decode cX10_arrives 142 = .ok (.iload 4, 2) := by decide +kernel
theorem dX10_arrives_144 : decode cX10_arrives 144 = .ok (.iload_n 3, 1) := by decide +kernel
theorem dX10_arrives_145 : decode cX10_arrives 145 = .ok (.invokevirtual 181, 3) := by decide +kernel
theorem dX10_arrives_148 : decode cX10_arrives 148 = .ok (.return_, 1) := by decide +kernel
theorem dX10_lender_0 : decode cX10_lender 0 = .ok (.iconst (-1), 1) := by decide +kernel
theorem dX10_lender_1 : decode cX10_lender 1 = .ok (.istore_n 3, 1) := by decide +kernel
theorem dX10_lender_2 : decode cX10_lender 2 = .ok (.iconst 0, 1) := by decide +kernel
theorem dX10_lender_3 : decode cX10_lender 3 = .ok (.istore 4, 2) := by decide +kernel
theorem dX10_lender_5 : decode cX10_lender 5 = .ok (.iload 4, 2) := by decide +kernel
theorem dX10_lender_7 : decode cX10_lender 7 = .ok (.aload_n 0, 1) := by decide +kernel
theorem dX10_lender_8 : decode cX10_lender 8 = .ok (.getfield 7, 3) := by decide +kernel
theorem dX10_lender_11 : decode cX10_lender 11 = .ok (.iconst 1, 1) := by decide +kernel
theorem dX10_lender_12 : decode cX10_lender 12 = .ok (.iaload, 1) := by decide +kernel
theorem dX10_lender_13 : decode cX10_lender 13 = .ok (.if_icmp .ge 68, 3) := by decide +kernel
theorem dX10_lender_16 : decode cX10_lender 16 = .ok (.iload 4, 2) := by decide +kernel
theorem dX10_lender_18 : decode cX10_lender 18 = .ok (.iload_n 1, 1) := by decide +kernel
theorem dX10_lender_19 : decode cX10_lender 19 = .ok (.if_icmp .eq 56, 3) := by decide +kernel
theorem dX10_lender_22 : decode cX10_lender 22 = .ok (.aload_n 0, 1) := by decide +kernel
theorem dX10_lender_23 : decode cX10_lender 23 = .ok (.getfield 7, 3) := by decide +kernel
theorem dX10_lender_26 : decode cX10_lender 26 = .ok (.bipush 62, 2) := by decide +kernel
theorem dX10_lender_28 : decode cX10_lender 28 = .ok (.iload 4, 2) := by decide +kernel
theorem dX10_lender_30 : decode cX10_lender 30 = .ok (.iload_n 2, 1) := by decide +kernel
theorem dX10_lender_31 : decode cX10_lender 31 = .ok (.invokestatic 104, 3) := by decide +kernel
theorem dX10_lender_34 : decode cX10_lender 34 = .ok (.iadd, 1) := by decide +kernel
theorem dX10_lender_35 : decode cX10_lender 35 = .ok (.iaload, 1) := by decide +kernel
theorem dX10_lender_36 : decode cX10_lender 36 = .ok (.aload_n 0, 1) := by decide +kernel
theorem dX10_lender_37 : decode cX10_lender 37 = .ok (.getfield 7, 3) := by decide +kernel
theorem dX10_lender_40 : decode cX10_lender 40 = .ok (.iconst 3, 1) := by decide +kernel
theorem dX10_lender_41 : decode cX10_lender 41 = .ok (.iaload, 1) := by decide +kernel
theorem dX10_lender_42 : decode cX10_lender 42 = .ok (.if_icmp .le 33, 3) := by decide +kernel
theorem dX10_lender_45 : decode cX10_lender 45 = .ok (.iload_n 3, 1) := by decide +kernel
theorem dX10_lender_46 : decode cX10_lender 46 = .ok (.iconst (-1), 1) := by decide +kernel
theorem dX10_lender_47 : decode cX10_lender 47 = .ok (.if_icmp .eq 25, 3) := by decide +kernel
theorem dX10_lender_50 : decode cX10_lender 50 = .ok (.aload_n 0, 1) := by decide +kernel
theorem dX10_lender_51 : decode cX10_lender 51 = .ok (.getfield 7, 3) := by decide +kernel
theorem dX10_lender_54 : decode cX10_lender 54 = .ok (.bipush 29, 2) := by decide +kernel
theorem dX10_lender_56 : decode cX10_lender 56 = .ok (.iload 4, 2) := by decide +kernel
theorem dX10_lender_58 : decode cX10_lender 58 = .ok (.iadd, 1) := by decide +kernel
theorem dX10_lender_59 : decode cX10_lender 59 = .ok (.iaload, 1) := by decide +kernel
theorem dX10_lender_60 : decode cX10_lender 60 = .ok (.aload_n 0, 1) := by decide +kernel
theorem dX10_lender_61 : decode cX10_lender 61 = .ok (.getfield 7, 3) := by decide +kernel
theorem dX10_lender_64 : decode cX10_lender 64 = .ok (.bipush 29, 2) := by decide +kernel
theorem dX10_lender_66 : decode cX10_lender 66 = .ok (.iload_n 3, 1) := by decide +kernel
theorem dX10_lender_67 : decode cX10_lender 67 = .ok (.iadd, 1) := by decide +kernel
theorem dX10_lender_68 : decode cX10_lender 68 = .ok (.iaload, 1) := by decide +kernel
theorem dX10_lender_69 : decode cX10_lender 69 = .ok (.if_icmp .ge 6, 3) := by decide +kernel
theorem dX10_lender_72 : decode cX10_lender 72 = .ok (.iload 4, 2) := by decide +kernel
theorem dX10_lender_74 : decode cX10_lender 74 = .ok (.istore_n 3, 1) := by decide +kernel
theorem dX10_lender_75 : decode cX10_lender 75 = .ok (.iinc 4 1, 3) := by decide +kernel
theorem dX10_lender_78 : decode cX10_lender 78 = .ok (.goto (-73), 3) := by decide +kernel
theorem dX10_lender_81 : decode cX10_lender 81 = .ok (.iload_n 3, 1) := by decide +kernel
theorem dX10_lender_82 : decode cX10_lender 82 = .ok (.ireturn, 1) := by decide +kernel
theorem dX10_lends_0 : decode cX10_lends 0 = .ok (.iconst 0, 1) := by decide +kernel
theorem dX10_lends_1 : decode cX10_lends 1 = .ok (.istore_n 1, 1) := by decide +kernel
theorem dX10_lends_2 : decode cX10_lends 2 = .ok (.iload_n 1, 1) := by decide +kernel
theorem dX10_lends_3 : decode cX10_lends 3 = .ok (.aload_n 0, 1) := by decide +kernel
theorem dX10_lends_4 : decode cX10_lends 4 = .ok (.getfield 7, 3) := by decide +kernel
theorem dX10_lends_7 : decode cX10_lends 7 = .ok (.bipush 14, 2) := by decide +kernel
theorem dX10_lends_9 : decode cX10_lends 9 = .ok (.iaload, 1) := by decide +kernel
theorem dX10_lends_10 : decode cX10_lends 10 = .ok (.if_icmp .ge 173, 3) := by decide +kernel
theorem dX10_lends_13 : decode cX10_lends 13 = .ok (.bipush 92, 2) := by decide +kernel
theorem dX10_lends_15 : decode cX10_lends 15 = .ok (.iconst 4, 1) := by decide +kernel
theorem dX10_lends_16 : decode cX10_lends 16 = .ok (.iload_n 1, 1) := by decide +kernel
theorem dX10_lends_17 : decode cX10_lends 17 = .ok (.imul, 1) := by decide +kernel
theorem dX10_lends_18 : decode cX10_lends 18 = .ok (.iadd, 1) := by decide +kernel
theorem dX10_lends_19 : decode cX10_lends 19 = .ok (.istore_n 2, 1) := by decide +kernel
theorem dX10_lends_20 : decode cX10_lends 20 = .ok (.aload_n 0, 1) := by decide +kernel
theorem dX10_lends_21 : decode cX10_lends 21 = .ok (.getfield 7, 3) := by decide +kernel
theorem dX10_lends_24 : decode cX10_lends 24 = .ok (.iload_n 2, 1) := by decide +kernel
theorem dX10_lends_25 : decode cX10_lends 25 = .ok (.iaload, 1) := by decide +kernel
theorem dX10_lends_26 : decode cX10_lends 26 = .ok (.istore_n 3, 1) := by decide +kernel
theorem dX10_lends_27 : decode cX10_lends 27 = .ok (.aload_n 0, 1) := by decide +kernel
theorem dX10_lends_28 : decode cX10_lends 28 = .ok (.getfield 7, 3) := by decide +kernel
theorem dX10_lends_31 : decode cX10_lends 31 = .ok (.iload_n 2, 1) := by decide +kernel
theorem dX10_lends_32 : decode cX10_lends 32 = .ok (.iconst 1, 1) := by decide +kernel
theorem dX10_lends_33 : decode cX10_lends 33 = .ok (.iadd, 1) := by decide +kernel
theorem dX10_lends_34 : decode cX10_lends 34 = .ok (.iaload, 1) := by decide +kernel
theorem dX10_lends_35 : decode cX10_lends 35 = .ok (.istore 4, 2) := by decide +kernel
theorem dX10_lends_37 : decode cX10_lends 37 = .ok (.aload_n 0, 1) := by decide +kernel
theorem dX10_lends_38 : decode cX10_lends 38 = .ok (.getfield 7, 3) := by decide +kernel
theorem dX10_lends_41 : decode cX10_lends 41 = .ok (.iload_n 2, 1) := by decide +kernel
theorem dX10_lends_42 : decode cX10_lends 42 = .ok (.iconst 3, 1) := by decide +kernel
theorem dX10_lends_43 : decode cX10_lends 43 = .ok (.iadd, 1) := by decide +kernel
theorem dX10_lends_44 : decode cX10_lends 44 = .ok (.iaload, 1) := by decide +kernel
theorem dX10_lends_45 : decode cX10_lends 45 = .ok (.iconst 1, 1) := by decide +kernel
theorem dX10_lends_46 : decode cX10_lends 46 = .ok (.if_icmp .ne 7, 3) := by decide +kernel
theorem dX10_lends_49 : decode cX10_lends 49 = .ok (.iconst (-1), 1) := by decide +kernel
theorem dX10_lends_50 : decode cX10_lends 50 = .ok (.goto 10, 3) := by decide +kernel
theorem dX10_lends_53 : decode cX10_lends 53 = .ok (.aload_n 0, 1) := by decide +kernel
theorem dX10_lends_54 : decode cX10_lends 54 = .ok (.iload_n 3, 1) := by decide +kernel
theorem dX10_lends_55 : decode cX10_lends 55 = .ok (.iload 4, 2) := by decide +kernel
theorem dX10_lends_57 : decode cX10_lends 57 = .ok (.invokevirtual 185, 3) := by decide +kernel
theorem dX10_lends_60 : decode cX10_lends 60 = .ok (.istore 5, 2) := by decide +kernel
theorem dX10_lends_62 : decode cX10_lends 62 = .ok (.iload 5, 2) := by decide +kernel
theorem dX10_lends_64 : decode cX10_lends 64 = .ok (.iconst (-1), 1) := by decide +kernel
theorem dX10_lends_65 : decode cX10_lends 65 = .ok (.if_icmp .ne 6, 3) := by decide +kernel
theorem dX10_lends_68 : decode cX10_lends 68 = .ok (.goto 109, 3) := by decide +kernel
theorem dX10_lends_71 : decode cX10_lends 71 = .ok (.aload_n 0, 1) := by decide +kernel
theorem dX10_lends_72 : decode cX10_lends 72 = .ok (.getfield 7, 3) := by decide +kernel
theorem dX10_lends_75 : decode cX10_lends 75 = .ok (.iload_n 2, 1) := by decide +kernel
theorem dX10_lends_76 : decode cX10_lends 76 = .ok (.iconst 3, 1) := by decide +kernel
theorem dX10_lends_77 : decode cX10_lends 77 = .ok (.iadd, 1) := by decide +kernel
theorem dX10_lends_78 : decode cX10_lends 78 = .ok (.iconst 1, 1) := by decide +kernel
theorem dX10_lends_79 : decode cX10_lends 79 = .ok (.iastore, 1) := by decide +kernel
theorem dX10_lends_80 : decode cX10_lends 80 = .ok (.aload_n 0, 1) := by decide +kernel
theorem dX10_lends_81 : decode cX10_lends 81 = .ok (.getfield 7, 3) := by decide +kernel
theorem dX10_lends_84 : decode cX10_lends 84 = .ok (.bipush 62, 2) := by decide +kernel
theorem dX10_lends_86 : decode cX10_lends 86 = .ok (.iload 5, 2) := by decide +kernel
theorem dX10_lends_88 : decode cX10_lends 88 = .ok (.iload 4, 2) := by decide +kernel
theorem dX10_lends_90 : decode cX10_lends 90 = .ok (.invokestatic 104, 3) := by decide +kernel
theorem dX10_lends_93 : decode cX10_lends 93 = .ok (.iadd, 1) := by decide +kernel
theorem dX10_lends_94 : decode cX10_lends 94 = .ok (.dup2, 1) := by decide +kernel
theorem dX10_lends_95 : decode cX10_lends 95 = .ok (.iaload, 1) := by decide +kernel
theorem dX10_lends_96 : decode cX10_lends 96 = .ok (.iconst 1, 1) := by decide +kernel
theorem dX10_lends_97 : decode cX10_lends 97 = .ok (.isub, 1) := by decide +kernel
theorem dX10_lends_98 : decode cX10_lends 98 = .ok (.iastore, 1) := by decide +kernel
theorem dX10_lends_99 : decode cX10_lends 99 = .ok (.aload_n 0, 1) := by decide +kernel
theorem dX10_lends_100 : decode cX10_lends 100 = .ok (.getfield 7, 3) := by decide +kernel
theorem dX10_lends_103 : decode cX10_lends 103 = .ok (.bipush 83, 2) := by decide +kernel
theorem dX10_lends_105 : decode cX10_lends 105 = .ok (.iload 5, 2) := by decide +kernel
theorem dX10_lends_107 : decode cX10_lends 107 = .ok (.iload 4, 2) := by decide +kernel
theorem dX10_lends_109 : decode cX10_lends 109 = .ok (.invokestatic 104, 3) := by decide +kernel
theorem dX10_lends_112 : decode cX10_lends 112 = .ok (.iadd, 1) := by decide +kernel
theorem dX10_lends_113 : decode cX10_lends 113 = .ok (.dup2, 1) := by decide +kernel
theorem dX10_lends_114 : decode cX10_lends 114 = .ok (.iaload, 1) := by decide +kernel
theorem dX10_lends_115 : decode cX10_lends 115 = .ok (.iconst 1, 1) := by decide +kernel
theorem dX10_lends_116 : decode cX10_lends 116 = .ok (.isub, 1) := by decide +kernel
theorem dX10_lends_117 : decode cX10_lends 117 = .ok (.iastore, 1) := by decide +kernel
theorem dX10_lends_118 : decode cX10_lends 118 = .ok (.aload_n 0, 1) := by decide +kernel
theorem dX10_lends_119 : decode cX10_lends 119 = .ok (.getfield 7, 3) := by decide +kernel
theorem dX10_lends_122 : decode cX10_lends 122 = .ok (.bipush 83, 2) := by decide +kernel
theorem dX10_lends_124 : decode cX10_lends 124 = .ok (.iload_n 3, 1) := by decide +kernel
theorem dX10_lends_125 : decode cX10_lends 125 = .ok (.iload 4, 2) := by decide +kernel
theorem dX10_lends_127 : decode cX10_lends 127 = .ok (.invokestatic 104, 3) := by decide +kernel
theorem dX10_lends_130 : decode cX10_lends 130 = .ok (.iadd, 1) := by decide +kernel
theorem dX10_lends_131 : decode cX10_lends 131 = .ok (.dup2, 1) := by decide +kernel
theorem dX10_lends_132 : decode cX10_lends 132 = .ok (.iaload, 1) := by decide +kernel
theorem dX10_lends_133 : decode cX10_lends 133 = .ok (.iconst 1, 1) := by decide +kernel
theorem dX10_lends_134 : decode cX10_lends 134 = .ok (.iadd, 1) := by decide +kernel
theorem dX10_lends_135 : decode cX10_lends 135 = .ok (.iastore, 1) := by decide +kernel
theorem dX10_lends_136 : decode cX10_lends 136 = .ok (.aload_n 0, 1) := by decide +kernel
theorem dX10_lends_137 : decode cX10_lends 137 = .ok (.getfield 7, 3) := by decide +kernel
theorem dX10_lends_140 : decode cX10_lends 140 = .ok (.bipush 11, 2) := by decide +kernel
theorem dX10_lends_142 : decode cX10_lends 142 = .ok (.dup2, 1) := by decide +kernel
theorem dX10_lends_143 : decode cX10_lends 143 = .ok (.iaload, 1) := by decide +kernel
theorem dX10_lends_144 : decode cX10_lends 144 = .ok (.iconst 1, 1) := by decide +kernel
theorem dX10_lends_145 : decode cX10_lends 145 = .ok (.iadd, 1) := by decide +kernel
theorem dX10_lends_146 : decode cX10_lends 146 = .ok (.iastore, 1) := by decide +kernel
theorem dX10_lends_147 : decode cX10_lends 147 = .ok (.aload_n 0, 1) := by decide +kernel
theorem dX10_lends_148 : decode cX10_lends 148 = .ok (.iconst 4, 1) := by decide +kernel
theorem dX10_lends_149 : decode cX10_lends 149 = .ok (.iload 4, 2) := by decide +kernel
theorem dX10_lends_151 : decode cX10_lends 151 = .ok (.iload_n 3, 1) := by decide +kernel
theorem dX10_lends_152 : decode cX10_lends 152 = .ok (.aload_n 0, 1) := by decide +kernel
theorem dX10_lends_153 : decode cX10_lends 153 = .ok (.getfield 7, 3) := by decide +kernel
theorem dX10_lends_156 : decode cX10_lends 156 = .ok (.bipush 29, 2) := by decide +kernel
theorem dX10_lends_158 : decode cX10_lends 158 = .ok (.iload 5, 2) := by decide +kernel
theorem dX10_lends_160 : decode cX10_lends 160 = .ok (.iadd, 1) := by decide +kernel
theorem dX10_lends_161 : decode cX10_lends 161 = .ok (.iaload, 1) := by decide +kernel
theorem dX10_lends_162 : decode cX10_lends 162 = .ok (.aload_n 0, 1) := by decide +kernel
theorem dX10_lends_163 : decode cX10_lends 163 = .ok (.getfield 7, 3) := by decide +kernel
theorem dX10_lends_166 : decode cX10_lends 166 = .ok (.bipush 29, 2) := by decide +kernel
theorem dX10_lends_168 : decode cX10_lends 168 = .ok (.iload_n 3, 1) := by decide +kernel
theorem dX10_lends_169 : decode cX10_lends 169 = .ok (.iadd, 1) := by decide +kernel
theorem dX10_lends_170 : decode cX10_lends 170 = .ok (.iaload, 1) := by decide +kernel
theorem dX10_lends_171 : decode cX10_lends 171 = .ok (.iadd, 1) := by decide +kernel
theorem dX10_lends_172 : decode cX10_lends 172 = .ok (.invokevirtual 167, 3) := by decide +kernel
theorem dX10_lends_175 : decode cX10_lends 175 = .ok (.istore 6, 2) := by decide +kernel
theorem dX10_lends_177 : decode cX10_lends 177 = .ok (.iinc 1 1, 3) := by decide +kernel
theorem dX10_lends_180 : decode cX10_lends 180 = .ok (.goto (-178), 3) := by decide +kernel
theorem dX10_lends_183 : decode cX10_lends 183 = .ok (.return_, 1) := by decide +kernel
theorem dX10_goesDay_0 : decode cX10_goesDay 0 = .ok (.aload_n 0, 1) := by decide +kernel
theorem dX10_goesDay_1 : decode cX10_goesDay 1 = .ok (.getfield 7, 3) := by decide +kernel
theorem dX10_goesDay_4 : decode cX10_goesDay 4 = .ok (.iconst 5, 1) := by decide +kernel
theorem dX10_goesDay_5 : decode cX10_goesDay 5 = .ok (.dup2, 1) := by decide +kernel
theorem dX10_goesDay_6 : decode cX10_goesDay 6 = .ok (.iaload, 1) := by decide +kernel
theorem dX10_goesDay_7 : decode cX10_goesDay 7 = .ok (.iconst 1, 1) := by decide +kernel
theorem dX10_goesDay_8 : decode cX10_goesDay 8 = .ok (.iadd, 1) := by decide +kernel
theorem dX10_goesDay_9 : decode cX10_goesDay 9 = .ok (.iastore, 1) := by decide +kernel
theorem dX10_goesDay_10 : decode cX10_goesDay 10 = .ok (.aload_n 0, 1) := by decide +kernel
theorem dX10_goesDay_11 : decode cX10_goesDay 11 = .ok (.invokevirtual 188, 3) := by decide +kernel
theorem dX10_goesDay_14 : decode cX10_goesDay 14 = .ok (.istore_n 1, 1) := by decide +kernel
theorem dX10_goesDay_15 : decode cX10_goesDay 15 = .ok (.iload_n 1, 1) := by decide +kernel
theorem dX10_goesDay_16 : decode cX10_goesDay 16 = .ok (.iconst (-1), 1) := by decide +kernel
theorem dX10_goesDay_17 : decode cX10_goesDay 17 = .ok (.if_icmp .eq 16, 3) := by decide +kernel
theorem dX10_goesDay_20 : decode cX10_goesDay 20 = .ok (.aload_n 0, 1) := by decide +kernel
theorem dX10_goesDay_21 : decode cX10_goesDay 21 = .ok (.iload_n 1, 1) := by decide +kernel
theorem dX10_goesDay_22 : decode cX10_goesDay 22 = .ok (.invokevirtual 191, 3) := by decide +kernel
theorem dX10_goesDay_25 : decode cX10_goesDay 25 = .ok (.aload_n 0, 1) := by decide +kernel
theorem dX10_goesDay_26 : decode cX10_goesDay 26 = .ok (.invokevirtual 188, 3) := by decide +kernel
theorem dX10_goesDay_29 : decode cX10_goesDay 29 = .ok (.istore_n 1, 1) := by decide +kernel
theorem dX10_goesDay_30 : decode cX10_goesDay 30 = .ok (.goto (-15), 3) := by decide +kernel
theorem dX10_goesDay_33 : decode cX10_goesDay 33 = .ok (.aload_n 0, 1) := by decide +kernel
theorem dX10_goesDay_34 : decode cX10_goesDay 34 = .ok (.invokevirtual 194, 3) := by decide +kernel
theorem dX10_goesDay_37 : decode cX10_goesDay 37 = .ok (.return_, 1) := by decide +kernel
theorem dX10_runs_0 : decode cX10_runs 0 = .ok (.aload_n 0, 1) := by decide +kernel
theorem dX10_runs_1 : decode cX10_runs 1 = .ok (.iload_n 2, 1) := by decide +kernel
theorem dX10_runs_2 : decode cX10_runs 2 = .ok (.putfield 197, 3) := by decide +kernel
theorem dX10_runs_5 : decode cX10_runs 5 = .ok (.aload_n 0, 1) := by decide +kernel
theorem dX10_runs_6 : decode cX10_runs 6 = .ok (.getfield 7, 3) := by decide +kernel
theorem dX10_runs_9 : decode cX10_runs 9 = .ok (.bipush 6, 2) := by decide +kernel
theorem dX10_runs_11 : decode cX10_runs 11 = .ok (.iaload, 1) := by decide +kernel
theorem dX10_runs_12 : decode cX10_runs 12 = .ok (.istore_n 3, 1) := by decide +kernel
theorem dX10_runs_13 : decode cX10_runs 13 = .ok (.iconst 0, 1) := by decide +kernel
theorem dX10_runs_14 : decode cX10_runs 14 = .ok (.istore 4, 2) := by decide +kernel
theorem dX10_runs_16 : decode cX10_runs 16 = .ok (.iload 4, 2) := by decide +kernel
theorem dX10_runs_18 : decode cX10_runs 18 = .ok (.iload_n 1, 1) := by decide +kernel
theorem dX10_runs_19 : decode cX10_runs 19 = .ok (.if_icmp .ge 117, 3) := by decide +kernel
theorem dX10_runs_22 : decode cX10_runs 22 = .ok (.iconst 0, 1) := by decide +kernel
theorem dX10_runs_23 : decode cX10_runs 23 = .ok (.istore 5, 2) := by decide +kernel
theorem dX10_runs_25 : decode cX10_runs 25 = .ok (.iload 5, 2) := by decide +kernel
theorem dX10_runs_27 : decode cX10_runs 27 = .ok (.aload_n 0, 1) := by decide +kernel
theorem dX10_runs_28 : decode cX10_runs 28 = .ok (.getfield 7, 3) := by decide +kernel
theorem dX10_runs_31 : decode cX10_runs 31 = .ok (.iconst 1, 1) := by decide +kernel
theorem dX10_runs_32 : decode cX10_runs 32 = .ok (.iaload, 1) := by decide +kernel
theorem dX10_runs_33 : decode cX10_runs 33 = .ok (.if_icmp .ge 93, 3) := by decide +kernel
theorem dX10_runs_36 : decode cX10_runs 36 = .ok (.iconst 0, 1) := by decide +kernel
theorem dX10_runs_37 : decode cX10_runs 37 = .ok (.istore 6, 2) := by decide +kernel
theorem dX10_runs_39 : decode cX10_runs 39 = .ok (.iload 6, 2) := by decide +kernel
theorem dX10_runs_41 : decode cX10_runs 41 = .ok (.aload_n 0, 1) := by decide +kernel
theorem dX10_runs_42 : decode cX10_runs 42 = .ok (.getfield 7, 3) := by decide +kernel
theorem dX10_runs_45 : decode cX10_runs 45 = .ok (.iconst 0, 1) := by decide +kernel
theorem dX10_runs_46 : decode cX10_runs 46 = .ok (.iaload, 1) := by decide +kernel
theorem dX10_runs_47 : decode cX10_runs 47 = .ok (.if_icmp .ge 73, 3) := by decide +kernel
theorem dX10_runs_50 : decode cX10_runs 50 = .ok (.aload_n 0, 1) := by decide +kernel
theorem dX10_runs_51 : decode cX10_runs 51 = .ok (.aload_n 0, 1) := by decide +kernel
theorem dX10_runs_52 : decode cX10_runs 52 = .ok (.getfield 197, 3) := by decide +kernel
theorem dX10_runs_55 : decode cX10_runs 55 = .ok (.ldc 200, 2) := by decide +kernel
theorem dX10_runs_57 : decode cX10_runs 57 = .ok (.imul, 1) := by decide +kernel
theorem dX10_runs_58 : decode cX10_runs 58 = .ok (.sipush 12345, 3) := by decide +kernel
theorem dX10_runs_61 : decode cX10_runs 61 = .ok (.iadd, 1) := by decide +kernel
theorem dX10_runs_62 : decode cX10_runs 62 = .ok (.putfield 197, 3) := by decide +kernel
theorem dX10_runs_65 : decode cX10_runs 65 = .ok (.aload_n 0, 1) := by decide +kernel
theorem dX10_runs_66 : decode cX10_runs 66 = .ok (.getfield 197, 3) := by decide +kernel
theorem dX10_runs_69 : decode cX10_runs 69 = .ok (.bipush 8, 2) := by decide +kernel
theorem dX10_runs_71 : decode cX10_runs 71 = .ok (.iushr, 1) := by decide +kernel
theorem dX10_runs_72 : decode cX10_runs 72 = .ok (.bipush 12, 2) := by decide +kernel
theorem dX10_runs_74 : decode cX10_runs 74 = .ok (.irem, 1) := by decide +kernel
theorem dX10_runs_75 : decode cX10_runs 75 = .ok (.aload_n 0, 1) := by decide +kernel
theorem dX10_runs_76 : decode cX10_runs 76 = .ok (.getfield 7, 3) := by decide +kernel
theorem dX10_runs_79 : decode cX10_runs 79 = .ok (.bipush 41, 2) := by decide +kernel
theorem dX10_runs_81 : decode cX10_runs 81 = .ok (.iload 5, 2) := by decide +kernel
theorem dX10_runs_83 : decode cX10_runs 83 = .ok (.iload 6, 2) := by decide +kernel
theorem dX10_runs_85 : decode cX10_runs 85 = .ok (.invokestatic 104, 3) := by decide +kernel
theorem dX10_runs_88 : decode cX10_runs 88 = .ok (.iadd, 1) := by decide +kernel
theorem dX10_runs_89 : decode cX10_runs 89 = .ok (.iaload, 1) := by decide +kernel
theorem dX10_runs_90 : decode cX10_runs 90 = .ok (.if_icmp .ge 24, 3) := by decide +kernel
theorem dX10_runs_93 : decode cX10_runs 93 = .ok (.aload_n 0, 1) := by decide +kernel
theorem dX10_runs_94 : decode cX10_runs 94 = .ok (.iload 5, 2) := by decide +kernel
theorem dX10_runs_96 : decode cX10_runs 96 = .ok (.iload 6, 2) := by decide +kernel
theorem dX10_runs_98 : decode cX10_runs 98 = .ok (.invokevirtual 201, 3) := by decide +kernel
theorem dX10_runs_101 : decode cX10_runs 101 = .ok (.ifCond .eq 13, 3) := by decide +kernel
theorem dX10_runs_104 : decode cX10_runs 104 = .ok (.aload_n 0, 1) := by decide +kernel
theorem dX10_runs_105 : decode cX10_runs 105 = .ok (.iload 5, 2) := by decide +kernel
theorem dX10_runs_107 : decode cX10_runs 107 = .ok (.iload 6, 2) := by decide +kernel
theorem dX10_runs_109 : decode cX10_runs 109 = .ok (.invokevirtual 205, 3) := by decide +kernel
theorem dX10_runs_112 : decode cX10_runs 112 = .ok (.istore 7, 2) := by decide +kernel
theorem dX10_runs_114 : decode cX10_runs 114 = .ok (.iinc 6 1, 3) := by decide +kernel
theorem dX10_runs_117 : decode cX10_runs 117 = .ok (.goto (-78), 3) := by decide +kernel
theorem dX10_runs_120 : decode cX10_runs 120 = .ok (.iinc 5 1, 3) := by decide +kernel
theorem dX10_runs_123 : decode cX10_runs 123 = .ok (.goto (-98), 3) := by decide +kernel
theorem dX10_runs_126 : decode cX10_runs 126 = .ok (.aload_n 0, 1) := by decide +kernel
theorem dX10_runs_127 : decode cX10_runs 127 = .ok (.invokevirtual 208, 3) := by decide +kernel
theorem dX10_runs_130 : decode cX10_runs 130 = .ok (.iinc 4 1, 3) := by decide +kernel
theorem dX10_runs_133 : decode cX10_runs 133 = .ok (.goto (-117), 3) := by decide +kernel
theorem dX10_runs_136 : decode cX10_runs 136 = .ok (.aload_n 0, 1) := by decide +kernel
theorem dX10_runs_137 : decode cX10_runs 137 = .ok (.getfield 7, 3) := by decide +kernel
theorem dX10_runs_140 : decode cX10_runs 140 = .ok (.bipush 6, 2) := by decide +kernel
theorem dX10_runs_142 : decode cX10_runs 142 = .ok (.iaload, 1) := by decide +kernel
theorem dX10_runs_143 : decode cX10_runs 143 = .ok (.iload_n 3, 1) := by decide +kernel
theorem dX10_runs_144 : decode cX10_runs 144 = .ok (.isub, 1) := by decide +kernel
theorem dX10_runs_145 : decode cX10_runs 145 = .ok (.ireturn, 1) := by decide +kernel
theorem dX10_remembers_0 : decode cX10_remembers 0 = .ok (.aload_n 0, 1) := by decide +kernel
theorem dX10_remembers_1 : decode cX10_remembers 1 = .ok (.getfield 153, 3) := by decide +kernel
theorem dX10_remembers_4 : decode cX10_remembers 4 = .ok (.bipush 12, 2) := by decide +kernel
theorem dX10_remembers_6 : decode cX10_remembers 6 = .ok (.if_icmp .ne 44, 3) := by decide +kernel
theorem dX10_remembers_9 : decode cX10_remembers 9 = .ok (.iconst 0, 1) := by decide +kernel
theorem dX10_remembers_10 : decode cX10_remembers 10 = .ok (.istore_n 1, 1) := by decide +kernel
theorem dX10_remembers_11 : decode cX10_remembers 11 = .ok (.iload_n 1, 1) := by decide +kernel
theorem dX10_remembers_12 : decode cX10_remembers 12 = .ok (.sipush 24332, 3) := by decide +kernel
theorem dX10_remembers_15 : decode cX10_remembers 15 = .ok (.if_icmp .ge 25, 3) := by decide +kernel
theorem dX10_remembers_18 : decode cX10_remembers 18 = .ok (.aload_n 0, 1) := by decide +kernel
theorem dX10_remembers_19 : decode cX10_remembers 19 = .ok (.getfield 16, 3) := by decide +kernel
theorem dX10_remembers_22 : decode cX10_remembers 22 = .ok (.iload_n 1, 1) := by decide +kernel
theorem dX10_remembers_23 : decode cX10_remembers 23 = .ok (.aload_n 0, 1) := by decide +kernel
theorem dX10_remembers_24 : decode cX10_remembers 24 = .ok (.getfield 16, 3) := by decide +kernel
theorem dX10_remembers_27 : decode cX10_remembers 27 = .ok (.iload_n 1, 1) := by decide +kernel
theorem dX10_remembers_28 : decode cX10_remembers 28 = .ok (.sipush 2212, 3) := by decide +kernel
theorem dX10_remembers_31 : decode cX10_remembers 31 = .ok (.iadd, 1) := by decide +kernel
theorem dX10_remembers_32 : decode cX10_remembers 32 = .ok (.iaload, 1) := by decide +kernel
theorem dX10_remembers_33 : decode cX10_remembers 33 = .ok (.iastore, 1) := by decide +kernel
theorem dX10_remembers_34 : decode cX10_remembers 34 = .ok (.iinc 1 1, 3) := by decide +kernel
theorem dX10_remembers_37 : decode cX10_remembers 37 = .ok (.goto (-26), 3) := by decide +kernel
theorem dX10_remembers_40 : decode cX10_remembers 40 = .ok (.aload_n 0, 1) := by decide +kernel
theorem dX10_remembers_41 : decode cX10_remembers 41 = .ok (.dup, 1) := by decide +kernel
theorem dX10_remembers_42 : decode cX10_remembers 42 = .ok (.getfield 153, 3) := by decide +kernel
theorem dX10_remembers_45 : decode cX10_remembers 45 = .ok (.iconst 1, 1) := by decide +kernel
theorem dX10_remembers_46 : decode cX10_remembers 46 = .ok (.isub, 1) := by decide +kernel
theorem dX10_remembers_47 : decode cX10_remembers 47 = .ok (.putfield 153, 3) := by decide +kernel
theorem dX10_remembers_50 : decode cX10_remembers 50 = .ok (.iconst 0, 1) := by decide +kernel
theorem dX10_remembers_51 : decode cX10_remembers 51 = .ok (.istore_n 1, 1) := by decide +kernel
theorem dX10_remembers_52 : decode cX10_remembers 52 = .ok (.iload_n 1, 1) := by decide +kernel
theorem dX10_remembers_53 : decode cX10_remembers 53 = .ok (.sipush 2212, 3) := by decide +kernel
theorem dX10_remembers_56 : decode cX10_remembers 56 = .ok (.if_icmp .ge 30, 3) := by decide +kernel
theorem dX10_remembers_59 : decode cX10_remembers 59 = .ok (.aload_n 0, 1) := by decide +kernel
theorem dX10_remembers_60 : decode cX10_remembers 60 = .ok (.getfield 16, 3) := by decide +kernel
theorem dX10_remembers_63 : decode cX10_remembers 63 = .ok (.sipush 2212, 3) := by decide +kernel
theorem dX10_remembers_66 : decode cX10_remembers 66 = .ok (.aload_n 0, 1) := by decide +kernel
theorem dX10_remembers_67 : decode cX10_remembers 67 = .ok (.getfield 153, 3) := by decide +kernel
theorem dX10_remembers_70 : decode cX10_remembers 70 = .ok (.imul, 1) := by decide +kernel
theorem dX10_remembers_71 : decode cX10_remembers 71 = .ok (.iload_n 1, 1) := by decide +kernel
theorem dX10_remembers_72 : decode cX10_remembers 72 = .ok (.iadd, 1) := by decide +kernel
theorem dX10_remembers_73 : decode cX10_remembers 73 = .ok (.aload_n 0, 1) := by decide +kernel
theorem dX10_remembers_74 : decode cX10_remembers 74 = .ok (.getfield 7, 3) := by decide +kernel
theorem dX10_remembers_77 : decode cX10_remembers 77 = .ok (.iload_n 1, 1) := by decide +kernel
theorem dX10_remembers_78 : decode cX10_remembers 78 = .ok (.iaload, 1) := by decide +kernel
theorem dX10_remembers_79 : decode cX10_remembers 79 = .ok (.iastore, 1) := by decide +kernel
theorem dX10_remembers_80 : decode cX10_remembers 80 = .ok (.iinc 1 1, 3) := by decide +kernel
theorem dX10_remembers_83 : decode cX10_remembers 83 = .ok (.goto (-31), 3) := by decide +kernel
theorem dX10_remembers_86 : decode cX10_remembers 86 = .ok (.aload_n 0, 1) := by decide +kernel
theorem dX10_remembers_87 : decode cX10_remembers 87 = .ok (.dup, 1) := by decide +kernel
theorem dX10_remembers_88 : decode cX10_remembers 88 = .ok (.getfield 153, 3) := by decide +kernel
theorem dX10_remembers_91 : decode cX10_remembers 91 = .ok (.iconst 1, 1) := by decide +kernel
theorem dX10_remembers_92 : decode cX10_remembers 92 = .ok (.iadd, 1) := by decide +kernel
theorem dX10_remembers_93 : decode cX10_remembers 93 = .ok (.putfield 153, 3) := by decide +kernel
theorem dX10_remembers_96 : decode cX10_remembers 96 = .ok (.return_, 1) := by decide +kernel
theorem dX10_breaks_0 : decode cX10_breaks 0 = .ok (.aload_n 0, 1) := by decide +kernel
theorem dX10_breaks_1 : decode cX10_breaks 1 = .ok (.iload_n 1, 1) := by decide +kernel
theorem dX10_breaks_2 : decode cX10_breaks 2 = .ok (.iload_n 2, 1) := by decide +kernel
theorem dX10_breaks_3 : decode cX10_breaks 3 = .ok (.invokevirtual 211, 3) := by decide +kernel
theorem dX10_breaks_6 : decode cX10_breaks 6 = .ok (.ifCond .eq 12, 3) := by decide +kernel
theorem dX10_breaks_9 : decode cX10_breaks 9 = .ok (.aload_n 0, 1) := by decide +kernel
theorem dX10_breaks_10 : decode cX10_breaks 10 = .ok (.iload_n 1, 1) := by decide +kernel
theorem dX10_breaks_11 : decode cX10_breaks 11 = .ok (.iload_n 2, 1) := by decide +kernel
theorem dX10_breaks_12 : decode cX10_breaks 12 = .ok (.invokevirtual 201, 3) := by decide +kernel
theorem dX10_breaks_15 : decode cX10_breaks 15 = .ok (.ifCond .ne 5, 3) := by decide +kernel
theorem dX10_breaks_18 : decode cX10_breaks 18 = .ok (.iconst (-1), 1) := by decide +kernel
theorem dX10_breaks_19 : decode cX10_breaks 19 = .ok (.ireturn, 1) := by decide +kernel
theorem dX10_breaks_20 : decode cX10_breaks 20 = .ok (.aload_n 0, 1) := by decide +kernel
theorem dX10_breaks_21 : decode cX10_breaks 21 = .ok (.invokevirtual 214, 3) := by decide +kernel
theorem dX10_breaks_24 : decode cX10_breaks 24 = .ok (.aload_n 0, 1) := by decide +kernel
theorem dX10_breaks_25 : decode cX10_breaks 25 = .ok (.iload_n 1, 1) := by decide +kernel
theorem dX10_breaks_26 : decode cX10_breaks 26 = .ok (.iload_n 2, 1) := by decide +kernel
theorem dX10_breaks_27 : decode cX10_breaks 27 = .ok (.invokevirtual 205, 3) := by decide +kernel
theorem dX10_breaks_30 : decode cX10_breaks 30 = .ok (.ireturn, 1) := by decide +kernel
theorem dX10_areDays_0 : decode cX10_areDays 0 = .ok (.iload_n 1, 1) := by decide +kernel
theorem dX10_areDays_1 : decode cX10_areDays 1 = .ok (.iconst 1, 1) := by decide +kernel
theorem dX10_areDays_2 : decode cX10_areDays 2 = .ok (.iload_n 2, 1) := by decide +kernel
theorem dX10_areDays_3 : decode cX10_areDays 3 = .ok (.invokestatic 51, 3) := by decide +kernel
theorem dX10_areDays_6 : decode cX10_areDays 6 = .ok (.ifCond .eq 21, 3) := by decide +kernel
theorem dX10_areDays_9 : decode cX10_areDays 9 = .ok (.aload_n 0, 1) := by decide +kernel
theorem dX10_areDays_10 : decode cX10_areDays 10 = .ok (.getfield 7, 3) := by decide +kernel
theorem dX10_areDays_13 : decode cX10_areDays 13 = .ok (.iconst 5, 1) := by decide +kernel
theorem dX10_areDays_14 : decode cX10_areDays 14 = .ok (.iaload, 1) := by decide +kernel
theorem dX10_areDays_15 : decode cX10_areDays 15 = .ok (.iload_n 1, 1) := by decide +kernel
theorem dX10_areDays_16 : decode cX10_areDays 16 = .ok (.iadd, 1) := by decide +kernel
theorem dX10_areDays_17 : decode cX10_areDays 17 = .ok (.sipush 9999, 3) := by decide +kernel
theorem dX10_areDays_20 : decode cX10_areDays 20 = .ok (.if_icmp .gt 7, 3) := by decide +kernel
theorem dX10_areDays_23 : decode cX10_areDays 23 = .ok (.iconst 1, 1) := by decide +kernel
theorem dX10_areDays_24 : decode cX10_areDays 24 = .ok (.goto 4, 3) := by decide +kernel
theorem dX10_areDays_27 : decode cX10_areDays 27 = .ok (.iconst 0, 1) := by decide +kernel
theorem dX10_areDays_28 : decode cX10_areDays 28 = .ok (.ireturn, 1) := by decide +kernel
theorem dX10_pass_0 : decode cX10_pass 0 = .ok (.aload_n 0, 1) := by decide +kernel
theorem dX10_pass_1 : decode cX10_pass 1 = .ok (.iload_n 1, 1) := by decide +kernel
theorem dX10_pass_2 : decode cX10_pass 2 = .ok (.bipush 30, 2) := by decide +kernel
theorem dX10_pass_4 : decode cX10_pass 4 = .ok (.invokevirtual 217, 3) := by decide +kernel
theorem dX10_pass_7 : decode cX10_pass 7 = .ok (.ifCond .ne 5, 3) := by decide +kernel
theorem dX10_pass_10 : decode cX10_pass 10 = .ok (.iconst (-1), 1) := by decide +kernel
theorem dX10_pass_11 : decode cX10_pass 11 = .ok (.ireturn, 1) := by decide +kernel
theorem dX10_pass_12 : decode cX10_pass 12 = .ok (.aload_n 0, 1) := by decide +kernel
theorem dX10_pass_13 : decode cX10_pass 13 = .ok (.invokevirtual 214, 3) := by decide +kernel
theorem dX10_pass_16 : decode cX10_pass 16 = .ok (.iconst 0, 1) := by decide +kernel
theorem dX10_pass_17 : decode cX10_pass 17 = .ok (.istore_n 2, 1) := by decide +kernel
theorem dX10_pass_18 : decode cX10_pass 18 = .ok (.iload_n 2, 1) := by decide +kernel
theorem dX10_pass_19 : decode cX10_pass 19 = .ok (.iload_n 1, 1) := by decide +kernel
theorem dX10_pass_20 : decode cX10_pass 20 = .ok (.if_icmp .ge 13, 3) := by decide +kernel
theorem dX10_pass_23 : decode cX10_pass 23 = .ok (.aload_n 0, 1) := by decide +kernel
theorem dX10_pass_24 : decode cX10_pass 24 = .ok (.invokevirtual 208, 3) := by decide +kernel
theorem dX10_pass_27 : decode cX10_pass 27 = .ok (.iinc 2 1, 3) := by decide +kernel
theorem dX10_pass_30 : decode cX10_pass 30 = .ok (.goto (-12), 3) := by decide +kernel
theorem dX10_pass_33 : decode cX10_pass 33 = .ok (.aload_n 0, 1) := by decide +kernel
theorem dX10_pass_34 : decode cX10_pass 34 = .ok (.getfield 7, 3) := by decide +kernel
theorem dX10_pass_37 : decode cX10_pass 37 = .ok (.iconst 5, 1) := by decide +kernel
theorem dX10_pass_38 : decode cX10_pass 38 = .ok (.iaload, 1) := by decide +kernel
theorem dX10_pass_39 : decode cX10_pass 39 = .ok (.ireturn, 1) := by decide +kernel
theorem dX10_run_0 : decode cX10_run 0 = .ok (.aload_n 0, 1) := by decide +kernel
theorem dX10_run_1 : decode cX10_run 1 = .ok (.iload_n 1, 1) := by decide +kernel
theorem dX10_run_2 : decode cX10_run 2 = .ok (.bipush 30, 2) := by decide +kernel
theorem dX10_run_4 : decode cX10_run 4 = .ok (.invokevirtual 217, 3) := by decide +kernel
theorem dX10_run_7 : decode cX10_run 7 = .ok (.ifCond .ne 5, 3) := by decide +kernel
theorem dX10_run_10 : decode cX10_run 10 = .ok (.iconst (-1), 1) := by decide +kernel
theorem dX10_run_11 : decode cX10_run 11 = .ok (.ireturn, 1) := by decide +kernel
theorem dX10_run_12 : decode cX10_run 12 = .ok (.aload_n 0, 1) := by decide +kernel
theorem dX10_run_13 : decode cX10_run 13 = .ok (.invokevirtual 214, 3) := by decide +kernel
theorem dX10_run_16 : decode cX10_run 16 = .ok (.aload_n 0, 1) := by decide +kernel
theorem dX10_run_17 : decode cX10_run 17 = .ok (.iload_n 1, 1) := by decide +kernel
theorem dX10_run_18 : decode cX10_run 18 = .ok (.iload_n 2, 1) := by decide +kernel
theorem dX10_run_19 : decode cX10_run 19 = .ok (.invokevirtual 220, 3) := by decide +kernel
theorem dX10_run_22 : decode cX10_run 22 = .ok (.ireturn, 1) := by decide +kernel
theorem dX10_buy_0 : decode cX10_buy 0 = .ok (.aload_n 0, 1) := by decide +kernel
theorem dX10_buy_1 : decode cX10_buy 1 = .ok (.iload_n 1, 1) := by decide +kernel
theorem dX10_buy_2 : decode cX10_buy 2 = .ok (.iload_n 2, 1) := by decide +kernel
theorem dX10_buy_3 : decode cX10_buy 3 = .ok (.invokevirtual 211, 3) := by decide +kernel
theorem dX10_buy_6 : decode cX10_buy 6 = .ok (.ifCond .eq 21, 3) := by decide +kernel
theorem dX10_buy_9 : decode cX10_buy 9 = .ok (.aload_n 0, 1) := by decide +kernel
theorem dX10_buy_10 : decode cX10_buy 10 = .ok (.getfield 7, 3) := by decide +kernel
theorem dX10_buy_13 : decode cX10_buy 13 = .ok (.bipush 50, 2) := by decide +kernel
theorem dX10_buy_15 : decode cX10_buy 15 = .ok (.iload_n 1, 1) := by decide +kernel
theorem dX10_buy_16 : decode cX10_buy 16 = .ok (.iload_n 2, 1) := by decide +kernel
theorem dX10_buy_17 : decode cX10_buy 17 = .ok (.invokestatic 104, 3) := by decide +kernel
theorem dX10_buy_20 : decode cX10_buy 20 = .ok (.iadd, 1) := by decide +kernel
theorem dX10_buy_21 : decode cX10_buy 21 = .ok (.iaload, 1) := by decide +kernel
theorem dX10_buy_22 : decode cX10_buy 22 = .ok (.bipush 9, 2) := by decide +kernel
theorem dX10_buy_24 : decode cX10_buy 24 = .ok (.if_icmp .ne 5, 3) := by decide +kernel
theorem dX10_buy_27 : decode cX10_buy 27 = .ok (.iconst (-1), 1) := by decide +kernel
theorem dX10_buy_28 : decode cX10_buy 28 = .ok (.ireturn, 1) := by decide +kernel
theorem dX10_buy_29 : decode cX10_buy 29 = .ok (.aload_n 0, 1) := by decide +kernel
theorem dX10_buy_30 : decode cX10_buy 30 = .ok (.invokevirtual 214, 3) := by decide +kernel
theorem dX10_buy_33 : decode cX10_buy 33 = .ok (.aload_n 0, 1) := by decide +kernel
theorem dX10_buy_34 : decode cX10_buy 34 = .ok (.getfield 7, 3) := by decide +kernel
theorem dX10_buy_37 : decode cX10_buy 37 = .ok (.bipush 50, 2) := by decide +kernel
theorem dX10_buy_39 : decode cX10_buy 39 = .ok (.iload_n 1, 1) := by decide +kernel
theorem dX10_buy_40 : decode cX10_buy 40 = .ok (.iload_n 2, 1) := by decide +kernel
theorem dX10_buy_41 : decode cX10_buy 41 = .ok (.invokestatic 104, 3) := by decide +kernel
theorem dX10_buy_44 : decode cX10_buy 44 = .ok (.iadd, 1) := by decide +kernel
theorem dX10_buy_45 : decode cX10_buy 45 = .ok (.dup2, 1) := by decide +kernel
theorem dX10_buy_46 : decode cX10_buy 46 = .ok (.iaload, 1) := by decide +kernel
theorem dX10_buy_47 : decode cX10_buy 47 = .ok (.iconst 1, 1) := by decide +kernel
theorem dX10_buy_48 : decode cX10_buy 48 = .ok (.iadd, 1) := by decide +kernel
theorem dX10_buy_49 : decode cX10_buy 49 = .ok (.iastore, 1) := by decide +kernel
theorem dX10_buy_50 : decode cX10_buy 50 = .ok (.aload_n 0, 1) := by decide +kernel
theorem dX10_buy_51 : decode cX10_buy 51 = .ok (.iload_n 1, 1) := by decide +kernel
theorem dX10_buy_52 : decode cX10_buy 52 = .ok (.iload_n 2, 1) := by decide +kernel
theorem dX10_buy_53 : decode cX10_buy 53 = .ok (.invokevirtual 181, 3) := by decide +kernel
theorem dX10_buy_56 : decode cX10_buy 56 = .ok (.aload_n 0, 1) := by decide +kernel
theorem dX10_buy_57 : decode cX10_buy 57 = .ok (.getfield 7, 3) := by decide +kernel
theorem dX10_buy_60 : decode cX10_buy 60 = .ok (.bipush 50, 2) := by decide +kernel
theorem dX10_buy_62 : decode cX10_buy 62 = .ok (.iload_n 1, 1) := by decide +kernel
theorem dX10_buy_63 : decode cX10_buy 63 = .ok (.iload_n 2, 1) := by decide +kernel
theorem dX10_buy_64 : decode cX10_buy 64 = .ok (.invokestatic 104, 3) := by decide +kernel
theorem dX10_buy_67 : decode cX10_buy 67 = .ok (.iadd, 1) := by decide +kernel
theorem dX10_buy_68 : decode cX10_buy 68 = .ok (.iaload, 1) := by decide +kernel
theorem dX10_buy_69 : decode cX10_buy 69 = .ok (.ireturn, 1) := by decide +kernel
theorem dX10_sell_0 : decode cX10_sell 0 = .ok (.aload_n 0, 1) := by decide +kernel
theorem dX10_sell_1 : decode cX10_sell 1 = .ok (.iload_n 1, 1) := by decide +kernel
theorem dX10_sell_2 : decode cX10_sell 2 = .ok (.iload_n 2, 1) := by decide +kernel
theorem dX10_sell_3 : decode cX10_sell 3 = .ok (.invokevirtual 211, 3) := by decide +kernel
theorem dX10_sell_6 : decode cX10_sell 6 = .ok (.ifCond .eq 35, 3) := by decide +kernel
theorem dX10_sell_9 : decode cX10_sell 9 = .ok (.aload_n 0, 1) := by decide +kernel
theorem dX10_sell_10 : decode cX10_sell 10 = .ok (.getfield 7, 3) := by decide +kernel
theorem dX10_sell_13 : decode cX10_sell 13 = .ok (.bipush 50, 2) := by decide +kernel
theorem dX10_sell_15 : decode cX10_sell 15 = .ok (.iload_n 1, 1) := by decide +kernel
theorem dX10_sell_16 : decode cX10_sell 16 = .ok (.iload_n 2, 1) := by decide +kernel
theorem dX10_sell_17 : decode cX10_sell 17 = .ok (.invokestatic 104, 3) := by decide +kernel
theorem dX10_sell_20 : decode cX10_sell 20 = .ok (.iadd, 1) := by decide +kernel
theorem dX10_sell_21 : decode cX10_sell 21 = .ok (.iaload, 1) := by decide +kernel
theorem dX10_sell_22 : decode cX10_sell 22 = .ok (.ifCond .eq 19, 3) := by decide +kernel
theorem dX10_sell_25 : decode cX10_sell 25 = .ok (.aload_n 0, 1) := by decide +kernel
theorem dX10_sell_26 : decode cX10_sell 26 = .ok (.getfield 7, 3) := by decide +kernel
theorem dX10_sell_29 : decode cX10_sell 29 = .ok (.bipush 62, 2) := by decide +kernel
theorem dX10_sell_31 : decode cX10_sell 31 = .ok (.iload_n 1, 1) := by decide +kernel
theorem dX10_sell_32 : decode cX10_sell 32 = .ok (.iload_n 2, 1) := by decide +kernel
theorem dX10_sell_33 : decode cX10_sell 33 = .ok (.invokestatic 104, 3) := by decide +kernel
theorem dX10_sell_36 : decode cX10_sell 36 = .ok (.iadd, 1) := by decide +kernel
theorem dX10_sell_37 : decode cX10_sell 37 = .ok (.iaload, 1) := by decide +kernel
theorem dX10_sell_38 : decode cX10_sell 38 = .ok (.ifCond .ne 5, 3) := by decide +kernel
theorem dX10_sell_41 : decode cX10_sell 41 = .ok (.iconst (-1), 1) := by decide +kernel
theorem dX10_sell_42 : decode cX10_sell 42 = .ok (.ireturn, 1) := by decide +kernel
theorem dX10_sell_43 : decode cX10_sell 43 = .ok (.aload_n 0, 1) := by decide +kernel
theorem dX10_sell_44 : decode cX10_sell 44 = .ok (.invokevirtual 214, 3) := by decide +kernel
theorem dX10_sell_47 : decode cX10_sell 47 = .ok (.aload_n 0, 1) := by decide +kernel
theorem dX10_sell_48 : decode cX10_sell 48 = .ok (.getfield 7, 3) := by decide +kernel
theorem dX10_sell_51 : decode cX10_sell 51 = .ok (.bipush 50, 2) := by decide +kernel
theorem dX10_sell_53 : decode cX10_sell 53 = .ok (.iload_n 1, 1) := by decide +kernel
theorem dX10_sell_54 : decode cX10_sell 54 = .ok (.iload_n 2, 1) := by decide +kernel
theorem dX10_sell_55 : decode cX10_sell 55 = .ok (.invokestatic 104, 3) := by decide +kernel
theorem dX10_sell_58 : decode cX10_sell 58 = .ok (.iadd, 1) := by decide +kernel
theorem dX10_sell_59 : decode cX10_sell 59 = .ok (.dup2, 1) := by decide +kernel
theorem dX10_sell_60 : decode cX10_sell 60 = .ok (.iaload, 1) := by decide +kernel
theorem dX10_sell_61 : decode cX10_sell 61 = .ok (.iconst 1, 1) := by decide +kernel
theorem dX10_sell_62 : decode cX10_sell 62 = .ok (.isub, 1) := by decide +kernel
theorem dX10_sell_63 : decode cX10_sell 63 = .ok (.iastore, 1) := by decide +kernel
theorem dX10_sell_64 : decode cX10_sell 64 = .ok (.aload_n 0, 1) := by decide +kernel
theorem dX10_sell_65 : decode cX10_sell 65 = .ok (.getfield 7, 3) := by decide +kernel
theorem dX10_sell_68 : decode cX10_sell 68 = .ok (.bipush 62, 2) := by decide +kernel
theorem dX10_sell_70 : decode cX10_sell 70 = .ok (.iload_n 1, 1) := by decide +kernel
theorem dX10_sell_71 : decode cX10_sell 71 = .ok (.iload_n 2, 1) := by decide +kernel
theorem dX10_sell_72 : decode cX10_sell 72 = .ok (.invokestatic 104, 3) := by decide +kernel
theorem dX10_sell_75 : decode cX10_sell 75 = .ok (.iadd, 1) := by decide +kernel
theorem dX10_sell_76 : decode cX10_sell 76 = .ok (.dup2, 1) := by decide +kernel
theorem dX10_sell_77 : decode cX10_sell 77 = .ok (.iaload, 1) := by decide +kernel
theorem dX10_sell_78 : decode cX10_sell 78 = .ok (.iconst 1, 1) := by decide +kernel
theorem dX10_sell_79 : decode cX10_sell 79 = .ok (.isub, 1) := by decide +kernel
theorem dX10_sell_80 : decode cX10_sell 80 = .ok (.iastore, 1) := by decide +kernel
theorem dX10_sell_81 : decode cX10_sell 81 = .ok (.aload_n 0, 1) := by decide +kernel
theorem dX10_sell_82 : decode cX10_sell 82 = .ok (.getfield 7, 3) := by decide +kernel
theorem dX10_sell_85 : decode cX10_sell 85 = .ok (.bipush 50, 2) := by decide +kernel
theorem dX10_sell_87 : decode cX10_sell 87 = .ok (.iload_n 1, 1) := by decide +kernel
theorem dX10_sell_88 : decode cX10_sell 88 = .ok (.iload_n 2, 1) := by decide +kernel
theorem dX10_sell_89 : decode cX10_sell 89 = .ok (.invokestatic 104, 3) := by decide +kernel
theorem dX10_sell_92 : decode cX10_sell 92 = .ok (.iadd, 1) := by decide +kernel
theorem dX10_sell_93 : decode cX10_sell 93 = .ok (.iaload, 1) := by decide +kernel
theorem dX10_sell_94 : decode cX10_sell 94 = .ok (.ireturn, 1) := by decide +kernel
theorem dX10_supply_0 : decode cX10_supply 0 = .ok (.aload_n 0, 1) := by decide +kernel
theorem dX10_supply_1 : decode cX10_supply 1 = .ok (.iload_n 1, 1) := by decide +kernel
theorem dX10_supply_2 : decode cX10_supply 2 = .ok (.invokevirtual 59, 3) := by decide +kernel
theorem dX10_supply_5 : decode cX10_supply 5 = .ok (.ifCond .eq 17, 3) := by decide +kernel
theorem dX10_supply_8 : decode cX10_supply 8 = .ok (.aload_n 0, 1) := by decide +kernel
theorem dX10_supply_9 : decode cX10_supply 9 = .ok (.getfield 7, 3) := by decide +kernel
theorem dX10_supply_12 : decode cX10_supply 12 = .ok (.bipush 59, 2) := by decide +kernel
theorem dX10_supply_14 : decode cX10_supply 14 = .ok (.iload_n 1, 1) := by decide +kernel
theorem dX10_supply_15 : decode cX10_supply 15 = .ok (.iadd, 1) := by decide +kernel
theorem dX10_supply_16 : decode cX10_supply 16 = .ok (.iaload, 1) := by decide +kernel
theorem dX10_supply_17 : decode cX10_supply 17 = .ok (.bipush 9, 2) := by decide +kernel
theorem dX10_supply_19 : decode cX10_supply 19 = .ok (.if_icmp .ne 5, 3) := by decide +kernel
theorem dX10_supply_22 : decode cX10_supply 22 = .ok (.iconst (-1), 1) := by decide +kernel
theorem dX10_supply_23 : decode cX10_supply 23 = .ok (.ireturn, 1) := by decide +kernel
theorem dX10_supply_24 : decode cX10_supply 24 = .ok (.aload_n 0, 1) := by decide +kernel
theorem dX10_supply_25 : decode cX10_supply 25 = .ok (.invokevirtual 214, 3) := by decide +kernel
theorem dX10_supply_28 : decode cX10_supply 28 = .ok (.aload_n 0, 1) := by decide +kernel
theorem dX10_supply_29 : decode cX10_supply 29 = .ok (.getfield 7, 3) := by decide +kernel
theorem dX10_supply_32 : decode cX10_supply 32 = .ok (.bipush 59, 2) := by decide +kernel
theorem dX10_supply_34 : decode cX10_supply 34 = .ok (.iload_n 1, 1) := by decide +kernel
theorem dX10_supply_35 : decode cX10_supply 35 = .ok (.iadd, 1) := by decide +kernel
theorem dX10_supply_36 : decode cX10_supply 36 = .ok (.dup2, 1) := by decide +kernel
theorem dX10_supply_37 : decode cX10_supply 37 = .ok (.iaload, 1) := by decide +kernel
theorem dX10_supply_38 : decode cX10_supply 38 = .ok (.iconst 1, 1) := by decide +kernel
theorem dX10_supply_39 : decode cX10_supply 39 = .ok (.iadd, 1) := by decide +kernel
theorem dX10_supply_40 : decode cX10_supply 40 = .ok (.iastore, 1) := by decide +kernel
theorem dX10_supply_41 : decode cX10_supply 41 = .ok (.aload_n 0, 1) := by decide +kernel
theorem dX10_supply_42 : decode cX10_supply 42 = .ok (.getfield 7, 3) := by decide +kernel
theorem dX10_supply_45 : decode cX10_supply 45 = .ok (.bipush 71, 2) := by decide +kernel
theorem dX10_supply_47 : decode cX10_supply 47 = .ok (.iload_n 1, 1) := by decide +kernel
theorem dX10_supply_48 : decode cX10_supply 48 = .ok (.iadd, 1) := by decide +kernel
theorem dX10_supply_49 : decode cX10_supply 49 = .ok (.dup2, 1) := by decide +kernel
theorem dX10_supply_50 : decode cX10_supply 50 = .ok (.iaload, 1) := by decide +kernel
theorem dX10_supply_51 : decode cX10_supply 51 = .ok (.iconst 1, 1) := by decide +kernel
theorem dX10_supply_52 : decode cX10_supply 52 = .ok (.iadd, 1) := by decide +kernel
theorem dX10_supply_53 : decode cX10_supply 53 = .ok (.iastore, 1) := by decide +kernel
theorem dX10_supply_54 : decode cX10_supply 54 = .ok (.aload_n 0, 1) := by decide +kernel
theorem dX10_supply_55 : decode cX10_supply 55 = .ok (.iload_n 1, 1) := by decide +kernel
theorem dX10_supply_56 : decode cX10_supply 56 = .ok (.invokevirtual 175, 3) := by decide +kernel
theorem dX10_supply_59 : decode cX10_supply 59 = .ok (.aload_n 0, 1) := by decide +kernel
theorem dX10_supply_60 : decode cX10_supply 60 = .ok (.getfield 7, 3) := by decide +kernel
theorem dX10_supply_63 : decode cX10_supply 63 = .ok (.bipush 59, 2) := by decide +kernel
theorem dX10_supply_65 : decode cX10_supply 65 = .ok (.iload_n 1, 1) := by decide +kernel
theorem dX10_supply_66 : decode cX10_supply 66 = .ok (.iadd, 1) := by decide +kernel
theorem dX10_supply_67 : decode cX10_supply 67 = .ok (.iaload, 1) := by decide +kernel
theorem dX10_supply_68 : decode cX10_supply 68 = .ok (.ireturn, 1) := by decide +kernel
theorem dX10_puts_0 : decode cX10_puts 0 = .ok (.aload_n 0, 1) := by decide +kernel
theorem dX10_puts_1 : decode cX10_puts 1 = .ok (.invokevirtual 214, 3) := by decide +kernel
theorem dX10_puts_4 : decode cX10_puts 4 = .ok (.aload_n 0, 1) := by decide +kernel
theorem dX10_puts_5 : decode cX10_puts 5 = .ok (.getfield 7, 3) := by decide +kernel
theorem dX10_puts_8 : decode cX10_puts 8 = .ok (.iload_n 1, 1) := by decide +kernel
theorem dX10_puts_9 : decode cX10_puts 9 = .ok (.iaload, 1) := by decide +kernel
theorem dX10_puts_10 : decode cX10_puts 10 = .ok (.istore_n 3, 1) := by decide +kernel
theorem dX10_puts_11 : decode cX10_puts 11 = .ok (.aload_n 0, 1) := by decide +kernel
theorem dX10_puts_12 : decode cX10_puts 12 = .ok (.getfield 7, 3) := by decide +kernel
theorem dX10_puts_15 : decode cX10_puts 15 = .ok (.iload_n 1, 1) := by decide +kernel
theorem dX10_puts_16 : decode cX10_puts 16 = .ok (.iload_n 2, 1) := by decide +kernel
theorem dX10_puts_17 : decode cX10_puts 17 = .ok (.iastore, 1) := by decide +kernel
theorem dX10_puts_18 : decode cX10_puts 18 = .ok (.iload_n 3, 1) := by decide +kernel
theorem dX10_puts_19 : decode cX10_puts 19 = .ok (.ireturn, 1) := by decide +kernel
theorem dX10_set_0 : decode cX10_set 0 = .ok (.aload_n 0, 1) := by decide +kernel
theorem dX10_set_1 : decode cX10_set 1 = .ok (.iload_n 1, 1) := by decide +kernel
theorem dX10_set_2 : decode cX10_set 2 = .ok (.invokevirtual 59, 3) := by decide +kernel
theorem dX10_set_5 : decode cX10_set 5 = .ok (.ifCond .eq 12, 3) := by decide +kernel
theorem dX10_set_8 : decode cX10_set 8 = .ok (.iload_n 2, 1) := by decide +kernel
theorem dX10_set_9 : decode cX10_set 9 = .ok (.iconst 0, 1) := by decide +kernel
theorem dX10_set_10 : decode cX10_set 10 = .ok (.iconst 2, 1) := by decide +kernel
theorem dX10_set_11 : decode cX10_set 11 = .ok (.invokestatic 51, 3) := by decide +kernel
theorem dX10_set_14 : decode cX10_set 14 = .ok (.ifCond .ne 5, 3) := by decide +kernel
theorem dX10_set_17 : decode cX10_set 17 = .ok (.iconst (-1), 1) := by decide +kernel
theorem dX10_set_18 : decode cX10_set 18 = .ok (.ireturn, 1) := by decide +kernel
theorem dX10_set_19 : decode cX10_set 19 = .ok (.iload_n 2, 1) := by decide +kernel
theorem dX10_set_20 : decode cX10_set 20 = .ok (.ifCond .ne 8, 3) := by decide +kernel
theorem dX10_set_23 : decode cX10_set 23 = .ok (.bipush 20, 2) := by decide +kernel
theorem dX10_set_25 : decode cX10_set 25 = .ok (.goto 15, 3) := by decide +kernel
theorem dX10_set_28 : decode cX10_set 28 = .ok (.iload_n 2, 1) := by decide +kernel
theorem dX10_set_29 : decode cX10_set 29 = .ok (.iconst 1, 1) := by decide +kernel
theorem dX10_set_30 : decode cX10_set 30 = .ok (.if_icmp .ne 8, 3) := by decide +kernel
theorem dX10_set_33 : decode cX10_set 33 = .ok (.bipush 23, 2) := by decide +kernel
theorem dX10_set_35 : decode cX10_set 35 = .ok (.goto 5, 3) := by decide +kernel
theorem dX10_set_38 : decode cX10_set 38 = .ok (.bipush 26, 2) := by decide +kernel
theorem dX10_set_40 : decode cX10_set 40 = .ok (.iload_n 1, 1) := by decide +kernel
theorem dX10_set_41 : decode cX10_set 41 = .ok (.iadd, 1) := by decide +kernel
theorem dX10_set_42 : decode cX10_set 42 = .ok (.istore 4, 2) := by decide +kernel
theorem dX10_set_44 : decode cX10_set 44 = .ok (.iload_n 3, 1) := by decide +kernel
theorem dX10_set_45 : decode cX10_set 45 = .ok (.iload_n 2, 1) := by decide +kernel
theorem dX10_set_46 : decode cX10_set 46 = .ok (.iconst 1, 1) := by decide +kernel
theorem dX10_set_47 : decode cX10_set 47 = .ok (.if_icmp .ne 7, 3) := by decide +kernel
theorem dX10_set_50 : decode cX10_set 50 = .ok (.iconst 0, 1) := by decide +kernel
theorem dX10_set_51 : decode cX10_set 51 = .ok (.goto 4, 3) := by decide +kernel
theorem dX10_set_54 : decode cX10_set 54 = .ok (.iconst 1, 1) := by decide +kernel
theorem dX10_set_55 : decode cX10_set 55 = .ok (.iload_n 2, 1) := by decide +kernel
theorem dX10_set_56 : decode cX10_set 56 = .ok (.ifCond .ne 8, 3) := by decide +kernel
theorem dX10_set_59 : decode cX10_set 59 = .ok (.bipush 30, 2) := by decide +kernel
theorem dX10_set_61 : decode cX10_set 61 = .ok (.goto 5, 3) := by decide +kernel
theorem dX10_set_64 : decode cX10_set 64 = .ok (.bipush 9, 2) := by decide +kernel
theorem dX10_set_66 : decode cX10_set 66 = .ok (.invokestatic 51, 3) := by decide +kernel
theorem dX10_set_69 : decode cX10_set 69 = .ok (.ifCond .eq 14, 3) := by decide +kernel
theorem dX10_set_72 : decode cX10_set 72 = .ok (.aload_n 0, 1) := by decide +kernel
theorem dX10_set_73 : decode cX10_set 73 = .ok (.getfield 7, 3) := by decide +kernel
theorem dX10_set_76 : decode cX10_set 76 = .ok (.iload 4, 2) := by decide +kernel
theorem dX10_set_78 : decode cX10_set 78 = .ok (.iaload, 1) := by decide +kernel
theorem dX10_set_79 : decode cX10_set 79 = .ok (.iload_n 3, 1) := by decide +kernel
theorem dX10_set_80 : decode cX10_set 80 = .ok (.if_icmp .ne 5, 3) := by decide +kernel
theorem dX10_set_83 : decode cX10_set 83 = .ok (.iconst (-1), 1) := by decide +kernel
theorem dX10_set_84 : decode cX10_set 84 = .ok (.ireturn, 1) := by decide +kernel
theorem dX10_set_85 : decode cX10_set 85 = .ok (.aload_n 0, 1) := by decide +kernel
theorem dX10_set_86 : decode cX10_set 86 = .ok (.iload 4, 2) := by decide +kernel
theorem dX10_set_88 : decode cX10_set 88 = .ok (.iload_n 3, 1) := by decide +kernel
theorem dX10_set_89 : decode cX10_set 89 = .ok (.invokevirtual 223, 3) := by decide +kernel
theorem dX10_set_92 : decode cX10_set 92 = .ok (.ireturn, 1) := by decide +kernel
theorem dX10_odds_0 : decode cX10_odds 0 = .ok (.aload_n 0, 1) := by decide +kernel
theorem dX10_odds_1 : decode cX10_odds 1 = .ok (.iload_n 1, 1) := by decide +kernel
theorem dX10_odds_2 : decode cX10_odds 2 = .ok (.iload_n 2, 1) := by decide +kernel
theorem dX10_odds_3 : decode cX10_odds 3 = .ok (.invokevirtual 211, 3) := by decide +kernel
theorem dX10_odds_6 : decode cX10_odds 6 = .ok (.ifCond .eq 30, 3) := by decide +kernel
theorem dX10_odds_9 : decode cX10_odds 9 = .ok (.iload_n 3, 1) := by decide +kernel
theorem dX10_odds_10 : decode cX10_odds 10 = .ok (.iconst 0, 1) := by decide +kernel
theorem dX10_odds_11 : decode cX10_odds 11 = .ok (.bipush 12, 2) := by decide +kernel
theorem dX10_odds_13 : decode cX10_odds 13 = .ok (.invokestatic 51, 3) := by decide +kernel
theorem dX10_odds_16 : decode cX10_odds 16 = .ok (.ifCond .eq 20, 3) := by decide +kernel
theorem dX10_odds_19 : decode cX10_odds 19 = .ok (.aload_n 0, 1) := by decide +kernel
theorem dX10_odds_20 : decode cX10_odds 20 = .ok (.getfield 7, 3) := by decide +kernel
theorem dX10_odds_23 : decode cX10_odds 23 = .ok (.bipush 41, 2) := by decide +kernel
theorem dX10_odds_25 : decode cX10_odds 25 = .ok (.iload_n 1, 1) := by decide +kernel
theorem dX10_odds_26 : decode cX10_odds 26 = .ok (.iload_n 2, 1) := by decide +kernel
theorem dX10_odds_27 : decode cX10_odds 27 = .ok (.invokestatic 104, 3) := by decide +kernel
theorem dX10_odds_30 : decode cX10_odds 30 = .ok (.iadd, 1) := by decide +kernel
theorem dX10_odds_31 : decode cX10_odds 31 = .ok (.iaload, 1) := by decide +kernel
theorem dX10_odds_32 : decode cX10_odds 32 = .ok (.iload_n 3, 1) := by decide +kernel
theorem dX10_odds_33 : decode cX10_odds 33 = .ok (.if_icmp .ne 5, 3) := by decide +kernel
theorem dX10_odds_36 : decode cX10_odds 36 = .ok (.iconst (-1), 1) := by decide +kernel
theorem dX10_odds_37 : decode cX10_odds 37 = .ok (.ireturn, 1) := by decide +kernel
theorem dX10_odds_38 : decode cX10_odds 38 = .ok (.aload_n 0, 1) := by decide +kernel
theorem dX10_odds_39 : decode cX10_odds 39 = .ok (.bipush 41, 2) := by decide +kernel
theorem dX10_odds_41 : decode cX10_odds 41 = .ok (.iload_n 1, 1) := by decide +kernel
theorem dX10_odds_42 : decode cX10_odds 42 = .ok (.iload_n 2, 1) := by decide +kernel
theorem dX10_odds_43 : decode cX10_odds 43 = .ok (.invokestatic 104, 3) := by decide +kernel
theorem dX10_odds_46 : decode cX10_odds 46 = .ok (.iadd, 1) := by decide +kernel
theorem dX10_odds_47 : decode cX10_odds 47 = .ok (.iload_n 3, 1) := by decide +kernel
theorem dX10_odds_48 : decode cX10_odds 48 = .ok (.invokevirtual 223, 3) := by decide +kernel
theorem dX10_odds_51 : decode cX10_odds 51 = .ok (.ireturn, 1) := by decide +kernel
theorem dX10_benches_0 : decode cX10_benches 0 = .ok (.iload_n 1, 1) := by decide +kernel
theorem dX10_benches_1 : decode cX10_benches 1 = .ok (.iconst 1, 1) := by decide +kernel
theorem dX10_benches_2 : decode cX10_benches 2 = .ok (.iconst 3, 1) := by decide +kernel
theorem dX10_benches_3 : decode cX10_benches 3 = .ok (.invokestatic 51, 3) := by decide +kernel
theorem dX10_benches_6 : decode cX10_benches 6 = .ok (.ifCond .eq 13, 3) := by decide +kernel
theorem dX10_benches_9 : decode cX10_benches 9 = .ok (.aload_n 0, 1) := by decide +kernel
theorem dX10_benches_10 : decode cX10_benches 10 = .ok (.getfield 7, 3) := by decide +kernel
theorem dX10_benches_13 : decode cX10_benches 13 = .ok (.iconst 2, 1) := by decide +kernel
theorem dX10_benches_14 : decode cX10_benches 14 = .ok (.iaload, 1) := by decide +kernel
theorem dX10_benches_15 : decode cX10_benches 15 = .ok (.iload_n 1, 1) := by decide +kernel
theorem dX10_benches_16 : decode cX10_benches 16 = .ok (.if_icmp .ne 5, 3) := by decide +kernel
theorem dX10_benches_19 : decode cX10_benches 19 = .ok (.iconst (-1), 1) := by decide +kernel
theorem dX10_benches_20 : decode cX10_benches 20 = .ok (.ireturn, 1) := by decide +kernel
theorem dX10_benches_21 : decode cX10_benches 21 = .ok (.aload_n 0, 1) := by decide +kernel
theorem dX10_benches_22 : decode cX10_benches 22 = .ok (.iconst 2, 1) := by decide +kernel
theorem dX10_benches_23 : decode cX10_benches 23 = .ok (.iload_n 1, 1) := by decide +kernel
theorem dX10_benches_24 : decode cX10_benches 24 = .ok (.invokevirtual 223, 3) := by decide +kernel
theorem dX10_benches_27 : decode cX10_benches 27 = .ok (.istore_n 2, 1) := by decide +kernel
theorem dX10_benches_28 : decode cX10_benches 28 = .ok (.aload_n 0, 1) := by decide +kernel
theorem dX10_benches_29 : decode cX10_benches 29 = .ok (.invokevirtual 178, 3) := by decide +kernel
theorem dX10_benches_32 : decode cX10_benches 32 = .ok (.iload_n 2, 1) := by decide +kernel
theorem dX10_benches_33 : decode cX10_benches 33 = .ok (.ireturn, 1) := by decide +kernel
theorem dX10_keep_0 : decode cX10_keep 0 = .ok (.iload_n 1, 1) := by decide +kernel
theorem dX10_keep_1 : decode cX10_keep 1 = .ok (.iconst 0, 1) := by decide +kernel
theorem dX10_keep_2 : decode cX10_keep 2 = .ok (.iconst 4, 1) := by decide +kernel
theorem dX10_keep_3 : decode cX10_keep 3 = .ok (.invokestatic 51, 3) := by decide +kernel
theorem dX10_keep_6 : decode cX10_keep 6 = .ok (.ifCond .eq 22, 3) := by decide +kernel
theorem dX10_keep_9 : decode cX10_keep 9 = .ok (.aload_n 0, 1) := by decide +kernel
theorem dX10_keep_10 : decode cX10_keep 10 = .ok (.getfield 7, 3) := by decide +kernel
theorem dX10_keep_13 : decode cX10_keep 13 = .ok (.iconst 3, 1) := by decide +kernel
theorem dX10_keep_14 : decode cX10_keep 14 = .ok (.iaload, 1) := by decide +kernel
theorem dX10_keep_15 : decode cX10_keep 15 = .ok (.iload_n 1, 1) := by decide +kernel
theorem dX10_keep_16 : decode cX10_keep 16 = .ok (.if_icmp .eq 12, 3) := by decide +kernel
theorem dX10_keep_19 : decode cX10_keep 19 = .ok (.aload_n 0, 1) := by decide +kernel
theorem dX10_keep_20 : decode cX10_keep 20 = .ok (.iconst 3, 1) := by decide +kernel
theorem dX10_keep_21 : decode cX10_keep 21 = .ok (.iload_n 1, 1) := by decide +kernel
theorem dX10_keep_22 : decode cX10_keep 22 = .ok (.invokevirtual 223, 3) := by decide +kernel
theorem dX10_keep_25 : decode cX10_keep 25 = .ok (.goto 4, 3) := by decide +kernel
theorem dX10_keep_28 : decode cX10_keep 28 = .ok (.iconst (-1), 1) := by decide +kernel
theorem dX10_keep_29 : decode cX10_keep 29 = .ok (.ireturn, 1) := by decide +kernel
theorem dX10_rule_0 : decode cX10_rule 0 = .ok (.aload_n 0, 1) := by decide +kernel
theorem dX10_rule_1 : decode cX10_rule 1 = .ok (.iconst 4, 1) := by decide +kernel
theorem dX10_rule_2 : decode cX10_rule 2 = .ok (.iconst 1, 1) := by decide +kernel
theorem dX10_rule_3 : decode cX10_rule 3 = .ok (.aload_n 0, 1) := by decide +kernel
theorem dX10_rule_4 : decode cX10_rule 4 = .ok (.getfield 7, 3) := by decide +kernel
theorem dX10_rule_7 : decode cX10_rule 7 = .ok (.iconst 4, 1) := by decide +kernel
theorem dX10_rule_8 : decode cX10_rule 8 = .ok (.iaload, 1) := by decide +kernel
theorem dX10_rule_9 : decode cX10_rule 9 = .ok (.isub, 1) := by decide +kernel
theorem dX10_rule_10 : decode cX10_rule 10 = .ok (.invokevirtual 223, 3) := by decide +kernel
theorem dX10_rule_13 : decode cX10_rule 13 = .ok (.ireturn, 1) := by decide +kernel
theorem dX10_begin_0 : decode cX10_begin 0 = .ok (.aload_n 0, 1) := by decide +kernel
theorem dX10_begin_1 : decode cX10_begin 1 = .ok (.invokevirtual 214, 3) := by decide +kernel
theorem dX10_begin_4 : decode cX10_begin 4 = .ok (.aload_n 0, 1) := by decide +kernel
theorem dX10_begin_5 : decode cX10_begin 5 = .ok (.getfield 7, 3) := by decide +kernel
theorem dX10_begin_8 : decode cX10_begin 8 = .ok (.iconst 5, 1) := by decide +kernel
theorem dX10_begin_9 : decode cX10_begin 9 = .ok (.iaload, 1) := by decide +kernel
theorem dX10_begin_10 : decode cX10_begin 10 = .ok (.istore_n 1, 1) := by decide +kernel
theorem dX10_begin_11 : decode cX10_begin 11 = .ok (.aload_n 0, 1) := by decide +kernel
theorem dX10_begin_12 : decode cX10_begin 12 = .ok (.invokevirtual 150, 3) := by decide +kernel
theorem dX10_begin_15 : decode cX10_begin 15 = .ok (.iload_n 1, 1) := by decide +kernel
theorem dX10_begin_16 : decode cX10_begin 16 = .ok (.ireturn, 1) := by decide +kernel
theorem dX10_undo_0 : decode cX10_undo 0 = .ok (.aload_n 0, 1) := by decide +kernel
theorem dX10_undo_1 : decode cX10_undo 1 = .ok (.getfield 153, 3) := by decide +kernel
theorem dX10_undo_4 : decode cX10_undo 4 = .ok (.ifCond .ne 5, 3) := by decide +kernel
theorem dX10_undo_7 : decode cX10_undo 7 = .ok (.iconst (-1), 1) := by decide +kernel
theorem dX10_undo_8 : decode cX10_undo 8 = .ok (.ireturn, 1) := by decide +kernel
theorem dX10_undo_9 : decode cX10_undo 9 = .ok (.aload_n 0, 1) := by decide +kernel
theorem dX10_undo_10 : decode cX10_undo 10 = .ok (.dup, 1) := by decide +kernel
theorem dX10_undo_11 : decode cX10_undo 11 = .ok (.getfield 153, 3) := by decide +kernel
theorem dX10_undo_14 : decode cX10_undo 14 = .ok (.iconst 1, 1) := by decide +kernel
theorem dX10_undo_15 : decode cX10_undo 15 = .ok (.isub, 1) := by decide +kernel
theorem dX10_undo_16 : decode cX10_undo 16 = .ok (.putfield 153, 3) := by decide +kernel
theorem dX10_undo_19 : decode cX10_undo 19 = .ok (.iconst 0, 1) := by decide +kernel
theorem dX10_undo_20 : decode cX10_undo 20 = .ok (.istore_n 1, 1) := by decide +kernel
theorem dX10_undo_21 : decode cX10_undo 21 = .ok (.iload_n 1, 1) := by decide +kernel
theorem dX10_undo_22 : decode cX10_undo 22 = .ok (.sipush 2212, 3) := by decide +kernel
theorem dX10_undo_25 : decode cX10_undo 25 = .ok (.if_icmp .ge 30, 3) := by decide +kernel
theorem dX10_undo_28 : decode cX10_undo 28 = .ok (.aload_n 0, 1) := by decide +kernel
theorem dX10_undo_29 : decode cX10_undo 29 = .ok (.getfield 7, 3) := by decide +kernel
theorem dX10_undo_32 : decode cX10_undo 32 = .ok (.iload_n 1, 1) := by decide +kernel
theorem dX10_undo_33 : decode cX10_undo 33 = .ok (.aload_n 0, 1) := by decide +kernel
theorem dX10_undo_34 : decode cX10_undo 34 = .ok (.getfield 16, 3) := by decide +kernel
theorem dX10_undo_37 : decode cX10_undo 37 = .ok (.sipush 2212, 3) := by decide +kernel
theorem dX10_undo_40 : decode cX10_undo 40 = .ok (.aload_n 0, 1) := by decide +kernel
theorem dX10_undo_41 : decode cX10_undo 41 = .ok (.getfield 153, 3) := by decide +kernel
theorem dX10_undo_44 : decode cX10_undo 44 = .ok (.imul, 1) := by decide +kernel
theorem dX10_undo_45 : decode cX10_undo 45 = .ok (.iload_n 1, 1) := by decide +kernel
theorem dX10_undo_46 : decode cX10_undo 46 = .ok (.iadd, 1) := by decide +kernel
theorem dX10_undo_47 : decode cX10_undo 47 = .ok (.iaload, 1) := by decide +kernel
theorem dX10_undo_48 : decode cX10_undo 48 = .ok (.iastore, 1) := by decide +kernel
theorem dX10_undo_49 : decode cX10_undo 49 = .ok (.iinc 1 1, 3) := by decide +kernel
theorem dX10_undo_52 : decode cX10_undo 52 = .ok (.goto (-31), 3) := by decide +kernel
theorem dX10_undo_55 : decode cX10_undo 55 = .ok (.aload_n 0, 1) := by decide +kernel
theorem dX10_undo_56 : decode cX10_undo 56 = .ok (.getfield 153, 3) := by decide +kernel
theorem dX10_undo_59 : decode cX10_undo 59 = .ok (.ireturn, 1) := by decide +kernel
theorem dX10_waysOf_0 : decode cX10_waysOf 0 = .ok (.iconst 0, 1) := by decide +kernel
theorem dX10_waysOf_1 : decode cX10_waysOf 1 = .ok (.istore 4, 2) := by decide +kernel
theorem dX10_waysOf_3 : decode cX10_waysOf 3 = .ok (.iconst 0, 1) := by decide +kernel
theorem dX10_waysOf_4 : decode cX10_waysOf 4 = .ok (.istore 5, 2) := by decide +kernel
theorem dX10_waysOf_6 : decode cX10_waysOf 6 = .ok (.iload 5, 2) := by decide +kernel
theorem dX10_waysOf_8 : decode cX10_waysOf 8 = .ok (.aload_n 0, 1) := by decide +kernel
theorem dX10_waysOf_9 : decode cX10_waysOf 9 = .ok (.getfield 7, 3) := by decide +kernel
theorem dX10_waysOf_12 : decode cX10_waysOf 12 = .ok (.bipush 16, 2) := by decide +kernel
theorem dX10_waysOf_14 : decode cX10_waysOf 14 = .ok (.iaload, 1) := by decide +kernel
theorem dX10_waysOf_15 : decode cX10_waysOf 15 = .ok (.if_icmp .ge 76, 3) := by decide +kernel
theorem dX10_waysOf_18 : decode cX10_waysOf 18 = .ok (.sipush 1012, 3) := by decide +kernel
theorem dX10_waysOf_21 : decode cX10_waysOf 21 = .ok (.iconst 5, 1) := by decide +kernel
theorem dX10_waysOf_22 : decode cX10_waysOf 22 = .ok (.iload 5, 2) := by decide +kernel
theorem dX10_waysOf_24 : decode cX10_waysOf 24 = .ok (.imul, 1) := by decide +kernel
theorem dX10_waysOf_25 : decode cX10_waysOf 25 = .ok (.iadd, 1) := by decide +kernel
theorem dX10_waysOf_26 : decode cX10_waysOf 26 = .ok (.istore 6, 2) := by decide +kernel
theorem dX10_waysOf_28 : decode cX10_waysOf 28 = .ok (.iload 4, 2) := by decide +kernel
theorem dX10_waysOf_30 : decode cX10_waysOf 30 = .ok (.aload_n 0, 1) := by decide +kernel
theorem dX10_waysOf_31 : decode cX10_waysOf 31 = .ok (.getfield 7, 3) := by decide +kernel
theorem dX10_waysOf_34 : decode cX10_waysOf 34 = .ok (.iload 6, 2) := by decide +kernel
theorem dX10_waysOf_36 : decode cX10_waysOf 36 = .ok (.iaload, 1) := by decide +kernel
theorem dX10_waysOf_37 : decode cX10_waysOf 37 = .ok (.iload_n 1, 1) := by decide +kernel
theorem dX10_waysOf_38 : decode cX10_waysOf 38 = .ok (.if_icmp .ne 43, 3) := by decide +kernel
theorem dX10_waysOf_41 : decode cX10_waysOf 41 = .ok (.iload_n 2, 1) := by decide +kernel
theorem dX10_waysOf_42 : decode cX10_waysOf 42 = .ok (.iconst (-1), 1) := by decide +kernel
theorem dX10_waysOf_43 : decode cX10_waysOf 43 = .ok (.if_icmp .eq 16, 3) := by decide +kernel
theorem dX10_waysOf_46 : decode cX10_waysOf 46 = .ok (.aload_n 0, 1) := by decide +kernel
theorem dX10_waysOf_47 : decode cX10_waysOf 47 = .ok (.getfield 7, 3) := by decide +kernel
theorem dX10_waysOf_50 : decode cX10_waysOf 50 = .ok (.iload 6, 2) := by decide +kernel
theorem dX10_waysOf_52 : decode cX10_waysOf 52 = .ok (.iconst 2, 1) := by decide +kernel
theorem dX10_waysOf_53 : decode cX10_waysOf 53 = .ok (.iadd, 1) := by decide +kernel
theorem dX10_waysOf_54 : decode cX10_waysOf 54 = .ok (.iaload, 1) := by decide +kernel
theorem dX10_waysOf_55 : decode cX10_waysOf 55 = .ok (.iload_n 2, 1) := by decide +kernel
theorem dX10_waysOf_56 : decode cX10_waysOf 56 = .ok (.if_icmp .ne 25, 3) := by decide +kernel
theorem dX10_waysOf_59 : decode cX10_waysOf 59 = .ok (.iload_n 3, 1) := by decide +kernel
theorem dX10_waysOf_60 : decode cX10_waysOf 60 = .ok (.iconst (-1), 1) := by decide +kernel
theorem dX10_waysOf_61 : decode cX10_waysOf 61 = .ok (.if_icmp .eq 16, 3) := by decide +kernel
theorem dX10_waysOf_64 : decode cX10_waysOf 64 = .ok (.aload_n 0, 1) := by decide +kernel
theorem dX10_waysOf_65 : decode cX10_waysOf 65 = .ok (.getfield 7, 3) := by decide +kernel
theorem dX10_waysOf_68 : decode cX10_waysOf 68 = .ok (.iload 6, 2) := by decide +kernel
theorem dX10_waysOf_70 : decode cX10_waysOf 70 = .ok (.iconst 3, 1) := by decide +kernel
theorem dX10_waysOf_71 : decode cX10_waysOf 71 = .ok (.iadd, 1) := by decide +kernel
theorem dX10_waysOf_72 : decode cX10_waysOf 72 = .ok (.iaload, 1) := by decide +kernel
theorem dX10_waysOf_73 : decode cX10_waysOf 73 = .ok (.iload_n 3, 1) := by decide +kernel
theorem dX10_waysOf_74 : decode cX10_waysOf 74 = .ok (.if_icmp .ne 7, 3) := by decide +kernel
theorem dX10_waysOf_77 : decode cX10_waysOf 77 = .ok (.iconst 1, 1) := by decide +kernel
theorem dX10_waysOf_78 : decode cX10_waysOf 78 = .ok (.goto 4, 3) := by decide +kernel
theorem dX10_waysOf_81 : decode cX10_waysOf 81 = .ok (.iconst 0, 1) := by decide +kernel
theorem dX10_waysOf_82 : decode cX10_waysOf 82 = .ok (.iadd, 1) := by decide +kernel
theorem dX10_waysOf_83 : decode cX10_waysOf 83 = .ok (.istore 4, 2) := by decide +kernel
theorem dX10_waysOf_85 : decode cX10_waysOf 85 = .ok (.iinc 5 1, 3) := by decide +kernel
theorem dX10_waysOf_88 : decode cX10_waysOf 88 = .ok (.goto (-82), 3) := by decide +kernel
theorem dX10_waysOf_91 : decode cX10_waysOf 91 = .ok (.iload 4, 2) := by decide +kernel
theorem dX10_waysOf_93 : decode cX10_waysOf 93 = .ok (.ireturn, 1) := by decide +kernel
theorem dX10_callsOfPart_0 : decode cX10_callsOfPart 0 = .ok (.iconst 0, 1) := by decide +kernel
theorem dX10_callsOfPart_1 : decode cX10_callsOfPart 1 = .ok (.istore_n 2, 1) := by decide +kernel
theorem dX10_callsOfPart_2 : decode cX10_callsOfPart 2 = .ok (.iconst 0, 1) := by decide +kernel
theorem dX10_callsOfPart_3 : decode cX10_callsOfPart 3 = .ok (.istore_n 3, 1) := by decide +kernel
theorem dX10_callsOfPart_4 : decode cX10_callsOfPart 4 = .ok (.iload_n 3, 1) := by decide +kernel
theorem dX10_callsOfPart_5 : decode cX10_callsOfPart 5 = .ok (.aload_n 0, 1) := by decide +kernel
theorem dX10_callsOfPart_6 : decode cX10_callsOfPart 6 = .ok (.getfield 7, 3) := by decide +kernel
theorem dX10_callsOfPart_9 : decode cX10_callsOfPart 9 = .ok (.iconst 1, 1) := by decide +kernel
theorem dX10_callsOfPart_10 : decode cX10_callsOfPart 10 = .ok (.iaload, 1) := by decide +kernel
theorem dX10_callsOfPart_11 : decode cX10_callsOfPart 11 = .ok (.if_icmp .ge 18, 3) := by decide +kernel
theorem dX10_callsOfPart_14 : decode cX10_callsOfPart 14 = .ok (.iload_n 2, 1) := by decide +kernel
theorem dX10_callsOfPart_15 : decode cX10_callsOfPart 15 = .ok (.aload_n 0, 1) := by decide +kernel
theorem dX10_callsOfPart_16 : decode cX10_callsOfPart 16 = .ok (.iload_n 3, 1) := by decide +kernel
theorem dX10_callsOfPart_17 : decode cX10_callsOfPart 17 = .ok (.iload_n 1, 1) := by decide +kernel
theorem dX10_callsOfPart_18 : decode cX10_callsOfPart 18 = .ok (.invokevirtual 226, 3) := by decide +kernel
theorem dX10_callsOfPart_21 : decode cX10_callsOfPart 21 = .ok (.iadd, 1) := by decide +kernel
theorem dX10_callsOfPart_22 : decode cX10_callsOfPart 22 = .ok (.istore_n 2, 1) := by decide +kernel
theorem dX10_callsOfPart_23 : decode cX10_callsOfPart 23 = .ok (.iinc 3 1, 3) := by decide +kernel
theorem dX10_callsOfPart_26 : decode cX10_callsOfPart 26 = .ok (.goto (-22), 3) := by decide +kernel
theorem dX10_callsOfPart_29 : decode cX10_callsOfPart 29 = .ok (.iload_n 2, 1) := by decide +kernel
theorem dX10_callsOfPart_30 : decode cX10_callsOfPart 30 = .ok (.ireturn, 1) := by decide +kernel
theorem dX10_waiting_0 : decode cX10_waiting 0 = .ok (.iconst 0, 1) := by decide +kernel
theorem dX10_waiting_1 : decode cX10_waiting 1 = .ok (.istore_n 2, 1) := by decide +kernel
theorem dX10_waiting_2 : decode cX10_waiting 2 = .ok (.iconst 0, 1) := by decide +kernel
theorem dX10_waiting_3 : decode cX10_waiting 3 = .ok (.istore_n 3, 1) := by decide +kernel
theorem dX10_waiting_4 : decode cX10_waiting 4 = .ok (.iload_n 3, 1) := by decide +kernel
theorem dX10_waiting_5 : decode cX10_waiting 5 = .ok (.aload_n 0, 1) := by decide +kernel
theorem dX10_waiting_6 : decode cX10_waiting 6 = .ok (.getfield 7, 3) := by decide +kernel
theorem dX10_waiting_9 : decode cX10_waiting 9 = .ok (.bipush 17, 2) := by decide +kernel
theorem dX10_waiting_11 : decode cX10_waiting 11 = .ok (.iaload, 1) := by decide +kernel
theorem dX10_waiting_12 : decode cX10_waiting 12 = .ok (.if_icmp .ge 31, 3) := by decide +kernel
theorem dX10_waiting_15 : decode cX10_waiting 15 = .ok (.iload_n 2, 1) := by decide +kernel
theorem dX10_waiting_16 : decode cX10_waiting 16 = .ok (.aload_n 0, 1) := by decide +kernel
theorem dX10_waiting_17 : decode cX10_waiting 17 = .ok (.getfield 7, 3) := by decide +kernel
theorem dX10_waiting_20 : decode cX10_waiting 20 = .ok (.sipush 2012, 3) := by decide +kernel
theorem dX10_waiting_23 : decode cX10_waiting 23 = .ok (.iload_n 3, 1) := by decide +kernel
theorem dX10_waiting_24 : decode cX10_waiting 24 = .ok (.iadd, 1) := by decide +kernel
theorem dX10_waiting_25 : decode cX10_waiting 25 = .ok (.iaload, 1) := by decide +kernel
theorem dX10_waiting_26 : decode cX10_waiting 26 = .ok (.iload_n 1, 1) := by decide +kernel
theorem dX10_waiting_27 : decode cX10_waiting 27 = .ok (.if_icmp .ne 7, 3) := by decide +kernel
theorem dX10_waiting_30 : decode cX10_waiting 30 = .ok (.iconst 1, 1) := by decide +kernel
theorem dX10_waiting_31 : decode cX10_waiting 31 = .ok (.goto 4, 3) := by decide +kernel
theorem dX10_waiting_34 : decode cX10_waiting 34 = .ok (.iconst 0, 1) := by decide +kernel
theorem dX10_waiting_35 : decode cX10_waiting 35 = .ok (.iadd, 1) := by decide +kernel
theorem dX10_waiting_36 : decode cX10_waiting 36 = .ok (.istore_n 2, 1) := by decide +kernel
theorem dX10_waiting_37 : decode cX10_waiting 37 = .ok (.iinc 3 1, 3) := by decide +kernel
theorem dX10_waiting_40 : decode cX10_waiting 40 = .ok (.goto (-36), 3) := by decide +kernel
theorem dX10_waiting_43 : decode cX10_waiting 43 = .ok (.iload_n 2, 1) := by decide +kernel
theorem dX10_waiting_44 : decode cX10_waiting 44 = .ok (.ireturn, 1) := by decide +kernel
theorem dX10_part_0 : decode cX10_part 0 = .ok (.aload_n 0, 1) := by decide +kernel
theorem dX10_part_1 : decode cX10_part 1 = .ok (.iload_n 1, 1) := by decide +kernel
theorem dX10_part_2 : decode cX10_part 2 = .ok (.invokevirtual 59, 3) := by decide +kernel
theorem dX10_part_5 : decode cX10_part 5 = .ok (.ifCond .ne 5, 3) := by decide +kernel
theorem dX10_part_8 : decode cX10_part 8 = .ok (.iconst (-1), 1) := by decide +kernel
theorem dX10_part_9 : decode cX10_part 9 = .ok (.ireturn, 1) := by decide +kernel
theorem dX10_part_10 : decode cX10_part 10 = .ok (.iload_n 2, 1) := by decide +kernel
theorem dX10_part_11 : decode cX10_part 11 = .ok (.tableswitch 127 0 8 #[49, 59, 69, 79, 89, 99, 105, 111, 119], 49) := by decide +kernel
theorem dX10_part_60 : decode cX10_part 60 = .ok (.aload_n 0, 1) := by decide +kernel
theorem dX10_part_61 : decode cX10_part 61 = .ok (.getfield 7, 3) := by decide +kernel
theorem dX10_part_64 : decode cX10_part 64 = .ok (.bipush 20, 2) := by decide +kernel
theorem dX10_part_66 : decode cX10_part 66 = .ok (.iload_n 1, 1) := by decide +kernel
theorem dX10_part_67 : decode cX10_part 67 = .ok (.iadd, 1) := by decide +kernel
theorem dX10_part_68 : decode cX10_part 68 = .ok (.iaload, 1) := by decide +kernel
theorem dX10_part_69 : decode cX10_part 69 = .ok (.ireturn, 1) := by decide +kernel
theorem dX10_part_70 : decode cX10_part 70 = .ok (.aload_n 0, 1) := by decide +kernel
theorem dX10_part_71 : decode cX10_part 71 = .ok (.getfield 7, 3) := by decide +kernel
theorem dX10_part_74 : decode cX10_part 74 = .ok (.bipush 23, 2) := by decide +kernel
theorem dX10_part_76 : decode cX10_part 76 = .ok (.iload_n 1, 1) := by decide +kernel
theorem dX10_part_77 : decode cX10_part 77 = .ok (.iadd, 1) := by decide +kernel
theorem dX10_part_78 : decode cX10_part 78 = .ok (.iaload, 1) := by decide +kernel
theorem dX10_part_79 : decode cX10_part 79 = .ok (.ireturn, 1) := by decide +kernel
theorem dX10_part_80 : decode cX10_part 80 = .ok (.aload_n 0, 1) := by decide +kernel
theorem dX10_part_81 : decode cX10_part 81 = .ok (.getfield 7, 3) := by decide +kernel
theorem dX10_part_84 : decode cX10_part 84 = .ok (.bipush 26, 2) := by decide +kernel
theorem dX10_part_86 : decode cX10_part 86 = .ok (.iload_n 1, 1) := by decide +kernel
theorem dX10_part_87 : decode cX10_part 87 = .ok (.iadd, 1) := by decide +kernel
theorem dX10_part_88 : decode cX10_part 88 = .ok (.iaload, 1) := by decide +kernel
theorem dX10_part_89 : decode cX10_part 89 = .ok (.ireturn, 1) := by decide +kernel
theorem dX10_part_90 : decode cX10_part 90 = .ok (.aload_n 0, 1) := by decide +kernel
theorem dX10_part_91 : decode cX10_part 91 = .ok (.getfield 7, 3) := by decide +kernel
theorem dX10_part_94 : decode cX10_part 94 = .ok (.bipush 59, 2) := by decide +kernel
theorem dX10_part_96 : decode cX10_part 96 = .ok (.iload_n 1, 1) := by decide +kernel
theorem dX10_part_97 : decode cX10_part 97 = .ok (.iadd, 1) := by decide +kernel
theorem dX10_part_98 : decode cX10_part 98 = .ok (.iaload, 1) := by decide +kernel
theorem dX10_part_99 : decode cX10_part 99 = .ok (.ireturn, 1) := by decide +kernel
theorem dX10_part_100 : decode cX10_part 100 = .ok (.aload_n 0, 1) := by decide +kernel
theorem dX10_part_101 : decode cX10_part 101 = .ok (.getfield 7, 3) := by decide +kernel
theorem dX10_part_104 : decode cX10_part 104 = .ok (.bipush 71, 2) := by decide +kernel
theorem dX10_part_106 : decode cX10_part 106 = .ok (.iload_n 1, 1) := by decide +kernel
theorem dX10_part_107 : decode cX10_part 107 = .ok (.iadd, 1) := by decide +kernel
theorem dX10_part_108 : decode cX10_part 108 = .ok (.iaload, 1) := by decide +kernel
theorem dX10_part_109 : decode cX10_part 109 = .ok (.ireturn, 1) := by decide +kernel
theorem dX10_part_110 : decode cX10_part 110 = .ok (.aload_n 0, 1) := by decide +kernel
theorem dX10_part_111 : decode cX10_part 111 = .ok (.iload_n 1, 1) := by decide +kernel
theorem dX10_part_112 : decode cX10_part 112 = .ok (.invokevirtual 229, 3) := by decide +kernel
theorem dX10_part_115 : decode cX10_part 115 = .ok (.ireturn, 1) := by decide +kernel
theorem dX10_part_116 : decode cX10_part 116 = .ok (.aload_n 0, 1) := by decide +kernel
theorem dX10_part_117 : decode cX10_part 117 = .ok (.iload_n 1, 1) := by decide +kernel
theorem dX10_part_118 : decode cX10_part 118 = .ok (.invokevirtual 232, 3) := by decide +kernel
theorem dX10_part_121 : decode cX10_part 121 = .ok (.ireturn, 1) := by decide +kernel
theorem dX10_part_122 : decode cX10_part 122 = .ok (.aload_n 0, 1) := by decide +kernel
theorem dX10_part_123 : decode cX10_part 123 = .ok (.iconst 2, 1) := by decide +kernel
theorem dX10_part_124 : decode cX10_part 124 = .ok (.iload_n 1, 1) := by decide +kernel
theorem dX10_part_125 : decode cX10_part 125 = .ok (.iconst (-1), 1) := by decide +kernel
theorem dX10_part_126 : decode cX10_part 126 = .ok (.invokevirtual 235, 3) := by decide +kernel
theorem dX10_part_129 : decode cX10_part 129 = .ok (.ireturn, 1) := by decide +kernel
theorem dX10_part_130 : decode cX10_part 130 = .ok (.aload_n 0, 1) := by decide +kernel
theorem dX10_part_131 : decode cX10_part 131 = .ok (.iconst 1, 1) := by decide +kernel
theorem dX10_part_132 : decode cX10_part 132 = .ok (.iload_n 1, 1) := by decide +kernel
theorem dX10_part_133 : decode cX10_part 133 = .ok (.iconst (-1), 1) := by decide +kernel
theorem dX10_part_134 : decode cX10_part 134 = .ok (.invokevirtual 235, 3) := by decide +kernel
theorem dX10_part_137 : decode cX10_part 137 = .ok (.ireturn, 1) := by decide +kernel
theorem dX10_part_138 : decode cX10_part 138 = .ok (.iconst (-1), 1) := by decide +kernel
theorem dX10_part_139 : decode cX10_part 139 = .ok (.ireturn, 1) := by decide +kernel
theorem dX10_base_0 : decode cX10_base 0 = .ok (.aload_n 0, 1) := by decide +kernel
theorem dX10_base_1 : decode cX10_base 1 = .ok (.iload_n 1, 1) := by decide +kernel
theorem dX10_base_2 : decode cX10_base 2 = .ok (.invokevirtual 55, 3) := by decide +kernel
theorem dX10_base_5 : decode cX10_base 5 = .ok (.ifCond .eq 12, 3) := by decide +kernel
theorem dX10_base_8 : decode cX10_base 8 = .ok (.iload_n 2, 1) := by decide +kernel
theorem dX10_base_9 : decode cX10_base 9 = .ok (.iconst 0, 1) := by decide +kernel
theorem dX10_base_10 : decode cX10_base 10 = .ok (.iconst 4, 1) := by decide +kernel
theorem dX10_base_11 : decode cX10_base 11 = .ok (.invokestatic 51, 3) := by decide +kernel
theorem dX10_base_14 : decode cX10_base 14 = .ok (.ifCond .ne 5, 3) := by decide +kernel
theorem dX10_base_17 : decode cX10_base 17 = .ok (.iconst (-1), 1) := by decide +kernel
theorem dX10_base_18 : decode cX10_base 18 = .ok (.ireturn, 1) := by decide +kernel
theorem dX10_base_19 : decode cX10_base 19 = .ok (.iload_n 2, 1) := by decide +kernel
theorem dX10_base_20 : decode cX10_base 20 = .ok (.ifCond .ne 13, 3) := by decide +kernel
theorem dX10_base_23 : decode cX10_base 23 = .ok (.aload_n 0, 1) := by decide +kernel
theorem dX10_base_24 : decode cX10_base 24 = .ok (.getfield 7, 3) := by decide +kernel
theorem dX10_base_27 : decode cX10_base 27 = .ok (.bipush 29, 2) := by decide +kernel
theorem dX10_base_29 : decode cX10_base 29 = .ok (.iload_n 1, 1) := by decide +kernel
theorem dX10_base_30 : decode cX10_base 30 = .ok (.iadd, 1) := by decide +kernel
theorem dX10_base_31 : decode cX10_base 31 = .ok (.iaload, 1) := by decide +kernel
theorem dX10_base_32 : decode cX10_base 32 = .ok (.ireturn, 1) := by decide +kernel
theorem dX10_base_33 : decode cX10_base 33 = .ok (.iload_n 2, 1) := by decide +kernel
theorem dX10_base_34 : decode cX10_base 34 = .ok (.iconst 3, 1) := by decide +kernel
theorem dX10_base_35 : decode cX10_base 35 = .ok (.if_icmp .ne 19, 3) := by decide +kernel
theorem dX10_base_38 : decode cX10_base 38 = .ok (.aload_n 0, 1) := by decide +kernel
theorem dX10_base_39 : decode cX10_base 39 = .ok (.iconst 3, 1) := by decide +kernel
theorem dX10_base_40 : decode cX10_base 40 = .ok (.iconst (-1), 1) := by decide +kernel
theorem dX10_base_41 : decode cX10_base 41 = .ok (.iload_n 1, 1) := by decide +kernel
theorem dX10_base_42 : decode cX10_base 42 = .ok (.invokevirtual 235, 3) := by decide +kernel
theorem dX10_base_45 : decode cX10_base 45 = .ok (.aload_n 0, 1) := by decide +kernel
theorem dX10_base_46 : decode cX10_base 46 = .ok (.iconst 4, 1) := by decide +kernel
theorem dX10_base_47 : decode cX10_base 47 = .ok (.iconst (-1), 1) := by decide +kernel
theorem dX10_base_48 : decode cX10_base 48 = .ok (.iload_n 1, 1) := by decide +kernel
theorem dX10_base_49 : decode cX10_base 49 = .ok (.invokevirtual 235, 3) := by decide +kernel
theorem dX10_base_52 : decode cX10_base 52 = .ok (.iadd, 1) := by decide +kernel
theorem dX10_base_53 : decode cX10_base 53 = .ok (.ireturn, 1) := by decide +kernel
theorem dX10_base_54 : decode cX10_base 54 = .ok (.iconst 0, 1) := by decide +kernel
theorem dX10_base_55 : decode cX10_base 55 = .ok (.istore_n 3, 1) := by decide +kernel
theorem dX10_base_56 : decode cX10_base 56 = .ok (.iconst 0, 1) := by decide +kernel
theorem dX10_base_57 : decode cX10_base 57 = .ok (.istore 4, 2) := by decide +kernel
theorem dX10_base_59 : decode cX10_base 59 = .ok (.iload 4, 2) := by decide +kernel
theorem dX10_base_61 : decode cX10_base 61 = .ok (.aload_n 0, 1) := by decide +kernel
theorem dX10_base_62 : decode cX10_base 62 = .ok (.getfield 7, 3) := by decide +kernel
theorem dX10_base_65 : decode cX10_base 65 = .ok (.iconst 0, 1) := by decide +kernel
theorem dX10_base_66 : decode cX10_base 66 = .ok (.iaload, 1) := by decide +kernel
theorem dX10_base_67 : decode cX10_base 67 = .ok (.if_icmp .ge 56, 3) := by decide +kernel
theorem dX10_base_70 : decode cX10_base 70 = .ok (.iload_n 3, 1) := by decide +kernel
theorem dX10_base_71 : decode cX10_base 71 = .ok (.iload_n 2, 1) := by decide +kernel
theorem dX10_base_72 : decode cX10_base 72 = .ok (.iconst 1, 1) := by decide +kernel
theorem dX10_base_73 : decode cX10_base 73 = .ok (.if_icmp .ne 13, 3) := by decide +kernel
theorem dX10_base_76 : decode cX10_base 76 = .ok (.aload_n 0, 1) := by decide +kernel
theorem dX10_base_77 : decode cX10_base 77 = .ok (.iload_n 1, 1) := by decide +kernel
theorem dX10_base_78 : decode cX10_base 78 = .ok (.iload 4, 2) := by decide +kernel
theorem dX10_base_80 : decode cX10_base 80 = .ok (.invokevirtual 156, 3) := by decide +kernel
theorem dX10_base_83 : decode cX10_base 83 = .ok (.goto 32, 3) := by decide +kernel
theorem dX10_base_86 : decode cX10_base 86 = .ok (.iload_n 2, 1) := by decide +kernel
theorem dX10_base_87 : decode cX10_base 87 = .ok (.iconst 2, 1) := by decide +kernel
theorem dX10_base_88 : decode cX10_base 88 = .ok (.if_icmp .ne 13, 3) := by decide +kernel
theorem dX10_base_91 : decode cX10_base 91 = .ok (.aload_n 0, 1) := by decide +kernel
theorem dX10_base_92 : decode cX10_base 92 = .ok (.iload_n 1, 1) := by decide +kernel
theorem dX10_base_93 : decode cX10_base 93 = .ok (.iload 4, 2) := by decide +kernel
theorem dX10_base_95 : decode cX10_base 95 = .ok (.invokevirtual 226, 3) := by decide +kernel
theorem dX10_base_98 : decode cX10_base 98 = .ok (.goto 17, 3) := by decide +kernel
theorem dX10_base_101 : decode cX10_base 101 = .ok (.aload_n 0, 1) := by decide +kernel
theorem dX10_base_102 : decode cX10_base 102 = .ok (.getfield 7, 3) := by decide +kernel
theorem dX10_base_105 : decode cX10_base 105 = .ok (.bipush 62, 2) := by decide +kernel
theorem dX10_base_107 : decode cX10_base 107 = .ok (.iload_n 1, 1) := by decide +kernel
theorem dX10_base_108 : decode cX10_base 108 = .ok (.iload 4, 2) := by decide +kernel
theorem dX10_base_110 : decode cX10_base 110 = .ok (.invokestatic 104, 3) := by decide +kernel
theorem dX10_base_113 : decode cX10_base 113 = .ok (.iadd, 1) := by decide +kernel
theorem dX10_base_114 : decode cX10_base 114 = .ok (.iaload, 1) := by decide +kernel
theorem dX10_base_115 : decode cX10_base 115 = .ok (.iadd, 1) := by decide +kernel
theorem dX10_base_116 : decode cX10_base 116 = .ok (.istore_n 3, 1) := by decide +kernel
theorem dX10_base_117 : decode cX10_base 117 = .ok (.iinc 4 1, 3) := by decide +kernel
theorem dX10_base_120 : decode cX10_base 120 = .ok (.goto (-61), 3) := by decide +kernel
theorem dX10_base_123 : decode cX10_base 123 = .ok (.iload_n 3, 1) := by decide +kernel
theorem dX10_base_124 : decode cX10_base 124 = .ok (.ireturn, 1) := by decide +kernel
theorem dX10_cell_0 : decode cX10_cell 0 = .ok (.aload_n 0, 1) := by decide +kernel
theorem dX10_cell_1 : decode cX10_cell 1 = .ok (.iload_n 1, 1) := by decide +kernel
theorem dX10_cell_2 : decode cX10_cell 2 = .ok (.iload_n 2, 1) := by decide +kernel
theorem dX10_cell_3 : decode cX10_cell 3 = .ok (.invokevirtual 211, 3) := by decide +kernel
theorem dX10_cell_6 : decode cX10_cell 6 = .ok (.ifCond .ne 17, 3) := by decide +kernel
theorem dX10_cell_9 : decode cX10_cell 9 = .ok (.iload_n 3, 1) := by decide +kernel
theorem dX10_cell_10 : decode cX10_cell 10 = .ok (.bipush 8, 2) := by decide +kernel
theorem dX10_cell_12 : decode cX10_cell 12 = .ok (.if_icmp .ne 9, 3) := by decide +kernel
theorem dX10_cell_15 : decode cX10_cell 15 = .ok (.sipush (-1000), 3) := by decide +kernel
theorem dX10_cell_18 : decode cX10_cell 18 = .ok (.goto 4, 3) := by decide +kernel
theorem dX10_cell_21 : decode cX10_cell 21 = .ok (.iconst (-1), 1) := by decide +kernel
theorem dX10_cell_22 : decode cX10_cell 22 = .ok (.ireturn, 1) := by decide +kernel
theorem dX10_cell_23 : decode cX10_cell 23 = .ok (.iload_n 1, 1) := by decide +kernel
theorem dX10_cell_24 : decode cX10_cell 24 = .ok (.iload_n 2, 1) := by decide +kernel
theorem dX10_cell_25 : decode cX10_cell 25 = .ok (.invokestatic 104, 3) := by decide +kernel
theorem dX10_cell_28 : decode cX10_cell 28 = .ok (.istore 4, 2) := by decide +kernel
theorem dX10_cell_30 : decode cX10_cell 30 = .ok (.iload_n 3, 1) := by decide +kernel
theorem dX10_cell_31 : decode cX10_cell 31 = .ok (.tableswitch 146 0 8 #[49, 60, 71, 82, 93, 104, 111, 127, 135], 49) := by decide +kernel
theorem dX10_cell_80 : decode cX10_cell 80 = .ok (.aload_n 0, 1) := by decide +kernel
theorem dX10_cell_81 : decode cX10_cell 81 = .ok (.getfield 7, 3) := by decide +kernel
theorem dX10_cell_84 : decode cX10_cell 84 = .ok (.bipush 32, 2) := by decide +kernel
theorem dX10_cell_86 : decode cX10_cell 86 = .ok (.iload 4, 2) := by decide +kernel
theorem dX10_cell_88 : decode cX10_cell 88 = .ok (.iadd, 1) := by decide +kernel
theorem dX10_cell_89 : decode cX10_cell 89 = .ok (.iaload, 1) := by decide +kernel
theorem dX10_cell_90 : decode cX10_cell 90 = .ok (.ireturn, 1) := by decide +kernel
theorem dX10_cell_91 : decode cX10_cell 91 = .ok (.aload_n 0, 1) := by decide +kernel
theorem dX10_cell_92 : decode cX10_cell 92 = .ok (.getfield 7, 3) := by decide +kernel
theorem dX10_cell_95 : decode cX10_cell 95 = .ok (.bipush 41, 2) := by decide +kernel
theorem dX10_cell_97 : decode cX10_cell 97 = .ok (.iload 4, 2) := by decide +kernel
theorem dX10_cell_99 : decode cX10_cell 99 = .ok (.iadd, 1) := by decide +kernel
theorem dX10_cell_100 : decode cX10_cell 100 = .ok (.iaload, 1) := by decide +kernel
theorem dX10_cell_101 : decode cX10_cell 101 = .ok (.ireturn, 1) := by decide +kernel
theorem dX10_cell_102 : decode cX10_cell 102 = .ok (.aload_n 0, 1) := by decide +kernel
theorem dX10_cell_103 : decode cX10_cell 103 = .ok (.getfield 7, 3) := by decide +kernel
theorem dX10_cell_106 : decode cX10_cell 106 = .ok (.bipush 50, 2) := by decide +kernel
theorem dX10_cell_108 : decode cX10_cell 108 = .ok (.iload 4, 2) := by decide +kernel
theorem dX10_cell_110 : decode cX10_cell 110 = .ok (.iadd, 1) := by decide +kernel
theorem dX10_cell_111 : decode cX10_cell 111 = .ok (.iaload, 1) := by decide +kernel
theorem dX10_cell_112 : decode cX10_cell 112 = .ok (.ireturn, 1) := by decide +kernel
theorem dX10_cell_113 : decode cX10_cell 113 = .ok (.aload_n 0, 1) := by decide +kernel
theorem dX10_cell_114 : decode cX10_cell 114 = .ok (.getfield 7, 3) := by decide +kernel
theorem dX10_cell_117 : decode cX10_cell 117 = .ok (.bipush 62, 2) := by decide +kernel
theorem dX10_cell_119 : decode cX10_cell 119 = .ok (.iload 4, 2) := by decide +kernel
theorem dX10_cell_121 : decode cX10_cell 121 = .ok (.iadd, 1) := by decide +kernel
theorem dX10_cell_122 : decode cX10_cell 122 = .ok (.iaload, 1) := by decide +kernel
theorem dX10_cell_123 : decode cX10_cell 123 = .ok (.ireturn, 1) := by decide +kernel
theorem dX10_cell_124 : decode cX10_cell 124 = .ok (.aload_n 0, 1) := by decide +kernel
theorem dX10_cell_125 : decode cX10_cell 125 = .ok (.getfield 7, 3) := by decide +kernel
theorem dX10_cell_128 : decode cX10_cell 128 = .ok (.bipush 74, 2) := by decide +kernel
theorem dX10_cell_130 : decode cX10_cell 130 = .ok (.iload 4, 2) := by decide +kernel
theorem dX10_cell_132 : decode cX10_cell 132 = .ok (.iadd, 1) := by decide +kernel
theorem dX10_cell_133 : decode cX10_cell 133 = .ok (.iaload, 1) := by decide +kernel
theorem dX10_cell_134 : decode cX10_cell 134 = .ok (.ireturn, 1) := by decide +kernel
theorem dX10_cell_135 : decode cX10_cell 135 = .ok (.aload_n 0, 1) := by decide +kernel
theorem dX10_cell_136 : decode cX10_cell 136 = .ok (.iload_n 1, 1) := by decide +kernel
theorem dX10_cell_137 : decode cX10_cell 137 = .ok (.iload_n 2, 1) := by decide +kernel
theorem dX10_cell_138 : decode cX10_cell 138 = .ok (.invokevirtual 226, 3) := by decide +kernel
theorem dX10_cell_141 : decode cX10_cell 141 = .ok (.ireturn, 1) := by decide +kernel
theorem dX10_cell_142 : decode cX10_cell 142 = .ok (.aload_n 0, 1) := by decide +kernel
theorem dX10_cell_143 : decode cX10_cell 143 = .ok (.iconst 3, 1) := by decide +kernel
theorem dX10_cell_144 : decode cX10_cell 144 = .ok (.iload_n 2, 1) := by decide +kernel
theorem dX10_cell_145 : decode cX10_cell 145 = .ok (.iload_n 1, 1) := by decide +kernel
theorem dX10_cell_146 : decode cX10_cell 146 = .ok (.invokevirtual 235, 3) := by decide +kernel
theorem dX10_cell_149 : decode cX10_cell 149 = .ok (.aload_n 0, 1) := by decide +kernel
theorem dX10_cell_150 : decode cX10_cell 150 = .ok (.iconst 4, 1) := by decide +kernel
theorem dX10_cell_151 : decode cX10_cell 151 = .ok (.iload_n 2, 1) := by decide +kernel
theorem dX10_cell_152 : decode cX10_cell 152 = .ok (.iload_n 1, 1) := by decide +kernel
theorem dX10_cell_153 : decode cX10_cell 153 = .ok (.invokevirtual 235, 3) := by decide +kernel
theorem dX10_cell_156 : decode cX10_cell 156 = .ok (.iadd, 1) := by decide +kernel
theorem dX10_cell_157 : decode cX10_cell 157 = .ok (.ireturn, 1) := by decide +kernel
theorem dX10_cell_158 : decode cX10_cell 158 = .ok (.aload_n 0, 1) := by decide +kernel
theorem dX10_cell_159 : decode cX10_cell 159 = .ok (.iconst 0, 1) := by decide +kernel
theorem dX10_cell_160 : decode cX10_cell 160 = .ok (.iload_n 2, 1) := by decide +kernel
theorem dX10_cell_161 : decode cX10_cell 161 = .ok (.iload_n 1, 1) := by decide +kernel
theorem dX10_cell_162 : decode cX10_cell 162 = .ok (.invokevirtual 235, 3) := by decide +kernel
theorem dX10_cell_165 : decode cX10_cell 165 = .ok (.ireturn, 1) := by decide +kernel
theorem dX10_cell_166 : decode cX10_cell 166 = .ok (.aload_n 0, 1) := by decide +kernel
theorem dX10_cell_167 : decode cX10_cell 167 = .ok (.getfield 7, 3) := by decide +kernel
theorem dX10_cell_170 : decode cX10_cell 170 = .ok (.bipush 83, 2) := by decide +kernel
theorem dX10_cell_172 : decode cX10_cell 172 = .ok (.iload 4, 2) := by decide +kernel
theorem dX10_cell_174 : decode cX10_cell 174 = .ok (.iadd, 1) := by decide +kernel
theorem dX10_cell_175 : decode cX10_cell 175 = .ok (.iaload, 1) := by decide +kernel
theorem dX10_cell_176 : decode cX10_cell 176 = .ok (.ireturn, 1) := by decide +kernel
theorem dX10_cell_177 : decode cX10_cell 177 = .ok (.iconst (-1), 1) := by decide +kernel
theorem dX10_cell_178 : decode cX10_cell 178 = .ok (.ireturn, 1) := by decide +kernel
theorem dX10_want_0 : decode cX10_want 0 = .ok (.iload_n 1, 1) := by decide +kernel
theorem dX10_want_1 : decode cX10_want 1 = .ok (.iconst 0, 1) := by decide +kernel
theorem dX10_want_2 : decode cX10_want 2 = .ok (.aload_n 0, 1) := by decide +kernel
theorem dX10_want_3 : decode cX10_want 3 = .ok (.getfield 7, 3) := by decide +kernel
theorem dX10_want_6 : decode cX10_want 6 = .ok (.bipush 14, 2) := by decide +kernel
theorem dX10_want_8 : decode cX10_want 8 = .ok (.iaload, 1) := by decide +kernel
theorem dX10_want_9 : decode cX10_want 9 = .ok (.iconst 1, 1) := by decide +kernel
theorem dX10_want_10 : decode cX10_want 10 = .ok (.isub, 1) := by decide +kernel
theorem dX10_want_11 : decode cX10_want 11 = .ok (.invokestatic 51, 3) := by decide +kernel
theorem dX10_want_14 : decode cX10_want 14 = .ok (.ifCond .eq 28, 3) := by decide +kernel
theorem dX10_want_17 : decode cX10_want 17 = .ok (.iload_n 2, 1) := by decide +kernel
theorem dX10_want_18 : decode cX10_want 18 = .ok (.iconst 0, 1) := by decide +kernel
theorem dX10_want_19 : decode cX10_want 19 = .ok (.iconst 3, 1) := by decide +kernel
theorem dX10_want_20 : decode cX10_want 20 = .ok (.invokestatic 51, 3) := by decide +kernel
theorem dX10_want_23 : decode cX10_want 23 = .ok (.ifCond .eq 19, 3) := by decide +kernel
theorem dX10_want_26 : decode cX10_want 26 = .ok (.aload_n 0, 1) := by decide +kernel
theorem dX10_want_27 : decode cX10_want 27 = .ok (.getfield 7, 3) := by decide +kernel
theorem dX10_want_30 : decode cX10_want 30 = .ok (.bipush 92, 2) := by decide +kernel
theorem dX10_want_32 : decode cX10_want 32 = .ok (.iconst 4, 1) := by decide +kernel
theorem dX10_want_33 : decode cX10_want 33 = .ok (.iload_n 1, 1) := by decide +kernel
theorem dX10_want_34 : decode cX10_want 34 = .ok (.imul, 1) := by decide +kernel
theorem dX10_want_35 : decode cX10_want 35 = .ok (.iadd, 1) := by decide +kernel
theorem dX10_want_36 : decode cX10_want 36 = .ok (.iload_n 2, 1) := by decide +kernel
theorem dX10_want_37 : decode cX10_want 37 = .ok (.iadd, 1) := by decide +kernel
theorem dX10_want_38 : decode cX10_want 38 = .ok (.iaload, 1) := by decide +kernel
theorem dX10_want_39 : decode cX10_want 39 = .ok (.goto 4, 3) := by decide +kernel
theorem dX10_want_42 : decode cX10_want 42 = .ok (.iconst (-1), 1) := by decide +kernel
theorem dX10_want_43 : decode cX10_want 43 = .ok (.ireturn, 1) := by decide +kernel
theorem dX10_call_0 : decode cX10_call 0 = .ok (.aload_n 0, 1) := by decide +kernel
theorem dX10_call_1 : decode cX10_call 1 = .ok (.iload_n 1, 1) := by decide +kernel
theorem dX10_call_2 : decode cX10_call 2 = .ok (.invokevirtual 59, 3) := by decide +kernel
theorem dX10_call_5 : decode cX10_call 5 = .ok (.ifCond .eq 16, 3) := by decide +kernel
theorem dX10_call_8 : decode cX10_call 8 = .ok (.iload_n 2, 1) := by decide +kernel
theorem dX10_call_9 : decode cX10_call 9 = .ok (.ifCond .lt 12, 3) := by decide +kernel
theorem dX10_call_12 : decode cX10_call 12 = .ok (.iload_n 3, 1) := by decide +kernel
theorem dX10_call_13 : decode cX10_call 13 = .ok (.iconst 0, 1) := by decide +kernel
theorem dX10_call_14 : decode cX10_call 14 = .ok (.iconst 1, 1) := by decide +kernel
theorem dX10_call_15 : decode cX10_call 15 = .ok (.invokestatic 51, 3) := by decide +kernel
theorem dX10_call_18 : decode cX10_call 18 = .ok (.ifCond .ne 5, 3) := by decide +kernel
theorem dX10_call_21 : decode cX10_call 21 = .ok (.iconst (-1), 1) := by decide +kernel
theorem dX10_call_22 : decode cX10_call 22 = .ok (.ireturn, 1) := by decide +kernel
theorem dX10_call_23 : decode cX10_call 23 = .ok (.iload_n 2, 1) := by decide +kernel
theorem dX10_call_24 : decode cX10_call 24 = .ok (.istore 4, 2) := by decide +kernel
theorem dX10_call_26 : decode cX10_call 26 = .ok (.iconst 0, 1) := by decide +kernel
theorem dX10_call_27 : decode cX10_call 27 = .ok (.istore 5, 2) := by decide +kernel
theorem dX10_call_29 : decode cX10_call 29 = .ok (.iload 5, 2) := by decide +kernel
theorem dX10_call_31 : decode cX10_call 31 = .ok (.aload_n 0, 1) := by decide +kernel
theorem dX10_call_32 : decode cX10_call 32 = .ok (.getfield 7, 3) := by decide +kernel
theorem dX10_call_35 : decode cX10_call 35 = .ok (.bipush 15, 2) := by decide +kernel
theorem dX10_call_37 : decode cX10_call 37 = .ok (.iaload, 1) := by decide +kernel
theorem dX10_call_38 : decode cX10_call 38 = .ok (.if_icmp .ge 57, 3) := by decide +kernel
theorem dX10_call_41 : decode cX10_call 41 = .ok (.aload_n 0, 1) := by decide +kernel
theorem dX10_call_42 : decode cX10_call 42 = .ok (.getfield 7, 3) := by decide +kernel
theorem dX10_call_45 : decode cX10_call 45 = .ok (.sipush 412, 3) := by decide +kernel
theorem dX10_call_48 : decode cX10_call 48 = .ok (.iconst 3, 1) := by decide +kernel
theorem dX10_call_49 : decode cX10_call 49 = .ok (.iload 5, 2) := by decide +kernel
theorem dX10_call_51 : decode cX10_call 51 = .ok (.imul, 1) := by decide +kernel
theorem dX10_call_52 : decode cX10_call 52 = .ok (.iadd, 1) := by decide +kernel
theorem dX10_call_53 : decode cX10_call 53 = .ok (.iconst 1, 1) := by decide +kernel
theorem dX10_call_54 : decode cX10_call 54 = .ok (.iadd, 1) := by decide +kernel
theorem dX10_call_55 : decode cX10_call 55 = .ok (.iaload, 1) := by decide +kernel
theorem dX10_call_56 : decode cX10_call 56 = .ok (.iload_n 1, 1) := by decide +kernel
theorem dX10_call_57 : decode cX10_call 57 = .ok (.if_icmp .eq 6, 3) := by decide +kernel
theorem dX10_call_60 : decode cX10_call 60 = .ok (.goto 29, 3) := by decide +kernel
theorem dX10_call_63 : decode cX10_call 63 = .ok (.iload 4, 2) := by decide +kernel
theorem dX10_call_65 : decode cX10_call 65 = .ok (.ifCond .ne 21, 3) := by decide +kernel
theorem dX10_call_68 : decode cX10_call 68 = .ok (.aload_n 0, 1) := by decide +kernel
theorem dX10_call_69 : decode cX10_call 69 = .ok (.getfield 7, 3) := by decide +kernel
theorem dX10_call_72 : decode cX10_call 72 = .ok (.sipush 412, 3) := by decide +kernel
theorem dX10_call_75 : decode cX10_call 75 = .ok (.iconst 3, 1) := by decide +kernel
theorem dX10_call_76 : decode cX10_call 76 = .ok (.iload 5, 2) := by decide +kernel
theorem dX10_call_78 : decode cX10_call 78 = .ok (.imul, 1) := by decide +kernel
theorem dX10_call_79 : decode cX10_call 79 = .ok (.iadd, 1) := by decide +kernel
theorem dX10_call_80 : decode cX10_call 80 = .ok (.iconst 2, 1) := by decide +kernel
theorem dX10_call_81 : decode cX10_call 81 = .ok (.iload_n 3, 1) := by decide +kernel
theorem dX10_call_82 : decode cX10_call 82 = .ok (.imul, 1) := by decide +kernel
theorem dX10_call_83 : decode cX10_call 83 = .ok (.iadd, 1) := by decide +kernel
theorem dX10_call_84 : decode cX10_call 84 = .ok (.iaload, 1) := by decide +kernel
theorem dX10_call_85 : decode cX10_call 85 = .ok (.ireturn, 1) := by decide +kernel
theorem dX10_call_86 : decode cX10_call 86 = .ok (.iinc 4 (-1), 3) := by decide +kernel
theorem dX10_call_89 : decode cX10_call 89 = .ok (.iinc 5 1, 3) := by decide +kernel
theorem dX10_call_92 : decode cX10_call 92 = .ok (.goto (-63), 3) := by decide +kernel
theorem dX10_call_95 : decode cX10_call 95 = .ok (.iconst (-1), 1) := by decide +kernel
theorem dX10_call_96 : decode cX10_call 96 = .ok (.ireturn, 1) := by decide +kernel
theorem dX10_way_0 : decode cX10_way 0 = .ok (.iload_n 1, 1) := by decide +kernel
theorem dX10_way_1 : decode cX10_way 1 = .ok (.iconst 0, 1) := by decide +kernel
theorem dX10_way_2 : decode cX10_way 2 = .ok (.aload_n 0, 1) := by decide +kernel
theorem dX10_way_3 : decode cX10_way 3 = .ok (.getfield 7, 3) := by decide +kernel
theorem dX10_way_6 : decode cX10_way 6 = .ok (.bipush 16, 2) := by decide +kernel
theorem dX10_way_8 : decode cX10_way 8 = .ok (.iaload, 1) := by decide +kernel
theorem dX10_way_9 : decode cX10_way 9 = .ok (.iconst 1, 1) := by decide +kernel
theorem dX10_way_10 : decode cX10_way 10 = .ok (.isub, 1) := by decide +kernel
theorem dX10_way_11 : decode cX10_way 11 = .ok (.invokestatic 51, 3) := by decide +kernel
theorem dX10_way_14 : decode cX10_way 14 = .ok (.ifCond .eq 12, 3) := by decide +kernel
theorem dX10_way_17 : decode cX10_way 17 = .ok (.iload_n 2, 1) := by decide +kernel
theorem dX10_way_18 : decode cX10_way 18 = .ok (.iconst 0, 1) := by decide +kernel
theorem dX10_way_19 : decode cX10_way 19 = .ok (.iconst 4, 1) := by decide +kernel
theorem dX10_way_20 : decode cX10_way 20 = .ok (.invokestatic 51, 3) := by decide +kernel
theorem dX10_way_23 : decode cX10_way 23 = .ok (.ifCond .ne 5, 3) := by decide +kernel
theorem dX10_way_26 : decode cX10_way 26 = .ok (.iconst (-1), 1) := by decide +kernel
theorem dX10_way_27 : decode cX10_way 27 = .ok (.ireturn, 1) := by decide +kernel
theorem dX10_way_28 : decode cX10_way 28 = .ok (.iconst 0, 1) := by decide +kernel
theorem dX10_way_29 : decode cX10_way 29 = .ok (.istore_n 3, 1) := by decide +kernel
theorem dX10_way_30 : decode cX10_way 30 = .ok (.iload_n 3, 1) := by decide +kernel
theorem dX10_way_31 : decode cX10_way 31 = .ok (.aload_n 0, 1) := by decide +kernel
theorem dX10_way_32 : decode cX10_way 32 = .ok (.getfield 7, 3) := by decide +kernel
theorem dX10_way_35 : decode cX10_way 35 = .ok (.bipush 16, 2) := by decide +kernel
theorem dX10_way_37 : decode cX10_way 37 = .ok (.iaload, 1) := by decide +kernel
theorem dX10_way_38 : decode cX10_way 38 = .ok (.if_icmp .ge 138, 3) := by decide +kernel
theorem dX10_way_41 : decode cX10_way 41 = .ok (.iconst 0, 1) := by decide +kernel
theorem dX10_way_42 : decode cX10_way 42 = .ok (.istore 4, 2) := by decide +kernel
theorem dX10_way_44 : decode cX10_way 44 = .ok (.iconst 0, 1) := by decide +kernel
theorem dX10_way_45 : decode cX10_way 45 = .ok (.istore 5, 2) := by decide +kernel
theorem dX10_way_47 : decode cX10_way 47 = .ok (.iload 5, 2) := by decide +kernel
theorem dX10_way_49 : decode cX10_way 49 = .ok (.aload_n 0, 1) := by decide +kernel
theorem dX10_way_50 : decode cX10_way 50 = .ok (.getfield 7, 3) := by decide +kernel
theorem dX10_way_53 : decode cX10_way 53 = .ok (.bipush 16, 2) := by decide +kernel
theorem dX10_way_55 : decode cX10_way 55 = .ok (.iaload, 1) := by decide +kernel
theorem dX10_way_56 : decode cX10_way 56 = .ok (.if_icmp .ge 93, 3) := by decide +kernel
theorem dX10_way_59 : decode cX10_way 59 = .ok (.aload_n 0, 1) := by decide +kernel
theorem dX10_way_60 : decode cX10_way 60 = .ok (.getfield 7, 3) := by decide +kernel
theorem dX10_way_63 : decode cX10_way 63 = .ok (.sipush 1012, 3) := by decide +kernel
theorem dX10_way_66 : decode cX10_way 66 = .ok (.iconst 5, 1) := by decide +kernel
theorem dX10_way_67 : decode cX10_way 67 = .ok (.iload 5, 2) := by decide +kernel
theorem dX10_way_69 : decode cX10_way 69 = .ok (.imul, 1) := by decide +kernel
theorem dX10_way_70 : decode cX10_way 70 = .ok (.iadd, 1) := by decide +kernel
theorem dX10_way_71 : decode cX10_way 71 = .ok (.iconst 4, 1) := by decide +kernel
theorem dX10_way_72 : decode cX10_way 72 = .ok (.iadd, 1) := by decide +kernel
theorem dX10_way_73 : decode cX10_way 73 = .ok (.iaload, 1) := by decide +kernel
theorem dX10_way_74 : decode cX10_way 74 = .ok (.aload_n 0, 1) := by decide +kernel
theorem dX10_way_75 : decode cX10_way 75 = .ok (.getfield 7, 3) := by decide +kernel
theorem dX10_way_78 : decode cX10_way 78 = .ok (.sipush 1012, 3) := by decide +kernel
theorem dX10_way_81 : decode cX10_way 81 = .ok (.iconst 5, 1) := by decide +kernel
theorem dX10_way_82 : decode cX10_way 82 = .ok (.iload_n 3, 1) := by decide +kernel
theorem dX10_way_83 : decode cX10_way 83 = .ok (.imul, 1) := by decide +kernel
theorem dX10_way_84 : decode cX10_way 84 = .ok (.iadd, 1) := by decide +kernel
theorem dX10_way_85 : decode cX10_way 85 = .ok (.iconst 4, 1) := by decide +kernel
theorem dX10_way_86 : decode cX10_way 86 = .ok (.iadd, 1) := by decide +kernel
theorem dX10_way_87 : decode cX10_way 87 = .ok (.iaload, 1) := by decide +kernel
theorem dX10_way_88 : decode cX10_way 88 = .ok (.isub, 1) := by decide +kernel
theorem dX10_way_89 : decode cX10_way 89 = .ok (.istore 6, 2) := by decide +kernel
theorem dX10_way_91 : decode cX10_way 91 = .ok (.iload 4, 2) := by decide +kernel
theorem dX10_way_93 : decode cX10_way 93 = .ok (.iload 6, 2) := by decide +kernel
theorem dX10_way_95 : decode cX10_way 95 = .ok (.ifCond .lt 40, 3) := by decide +kernel
theorem dX10_way_98 : decode cX10_way 98 = .ok (.iload 6, 2) := by decide +kernel
theorem dX10_way_100 : decode cX10_way 100 = .ok (.ifCond .ne 39, 3) := by decide +kernel
theorem dX10_way_103 : decode cX10_way 103 = .ok (.aload_n 0, 1) := by decide +kernel
theorem dX10_way_104 : decode cX10_way 104 = .ok (.getfield 7, 3) := by decide +kernel
theorem dX10_way_107 : decode cX10_way 107 = .ok (.sipush 1012, 3) := by decide +kernel
theorem dX10_way_110 : decode cX10_way 110 = .ok (.iconst 5, 1) := by decide +kernel
theorem dX10_way_111 : decode cX10_way 111 = .ok (.iload 5, 2) := by decide +kernel
theorem dX10_way_113 : decode cX10_way 113 = .ok (.imul, 1) := by decide +kernel
theorem dX10_way_114 : decode cX10_way 114 = .ok (.iadd, 1) := by decide +kernel
theorem dX10_way_115 : decode cX10_way 115 = .ok (.iconst 1, 1) := by decide +kernel
theorem dX10_way_116 : decode cX10_way 116 = .ok (.iadd, 1) := by decide +kernel
theorem dX10_way_117 : decode cX10_way 117 = .ok (.iaload, 1) := by decide +kernel
theorem dX10_way_118 : decode cX10_way 118 = .ok (.aload_n 0, 1) := by decide +kernel
theorem dX10_way_119 : decode cX10_way 119 = .ok (.getfield 7, 3) := by decide +kernel
theorem dX10_way_122 : decode cX10_way 122 = .ok (.sipush 1012, 3) := by decide +kernel
theorem dX10_way_125 : decode cX10_way 125 = .ok (.iconst 5, 1) := by decide +kernel
theorem dX10_way_126 : decode cX10_way 126 = .ok (.iload_n 3, 1) := by decide +kernel
theorem dX10_way_127 : decode cX10_way 127 = .ok (.imul, 1) := by decide +kernel
theorem dX10_way_128 : decode cX10_way 128 = .ok (.iadd, 1) := by decide +kernel
theorem dX10_way_129 : decode cX10_way 129 = .ok (.iconst 1, 1) := by decide +kernel
theorem dX10_way_130 : decode cX10_way 130 = .ok (.iadd, 1) := by decide +kernel
theorem dX10_way_131 : decode cX10_way 131 = .ok (.iaload, 1) := by decide +kernel
theorem dX10_way_132 : decode cX10_way 132 = .ok (.if_icmp .ge 7, 3) := by decide +kernel
theorem dX10_way_135 : decode cX10_way 135 = .ok (.iconst 1, 1) := by decide +kernel
theorem dX10_way_136 : decode cX10_way 136 = .ok (.goto 4, 3) := by decide +kernel
theorem dX10_way_139 : decode cX10_way 139 = .ok (.iconst 0, 1) := by decide +kernel
theorem dX10_way_140 : decode cX10_way 140 = .ok (.iadd, 1) := by decide +kernel
theorem dX10_way_141 : decode cX10_way 141 = .ok (.istore 4, 2) := by decide +kernel
theorem dX10_way_143 : decode cX10_way 143 = .ok (.iinc 5 1, 3) := by decide +kernel
theorem dX10_way_146 : decode cX10_way 146 = .ok (.goto (-99), 3) := by decide +kernel
theorem dX10_way_149 : decode cX10_way 149 = .ok (.iload 4, 2) := by decide +kernel
theorem dX10_way_151 : decode cX10_way 151 = .ok (.iload_n 1, 1) := by decide +kernel
theorem dX10_way_152 : decode cX10_way 152 = .ok (.if_icmp .ne 18, 3) := by decide +kernel
theorem dX10_way_155 : decode cX10_way 155 = .ok (.aload_n 0, 1) := by decide +kernel
theorem dX10_way_156 : decode cX10_way 156 = .ok (.getfield 7, 3) := by decide +kernel
theorem dX10_way_159 : decode cX10_way 159 = .ok (.sipush 1012, 3) := by decide +kernel
theorem dX10_way_162 : decode cX10_way 162 = .ok (.iconst 5, 1) := by decide +kernel
theorem dX10_way_163 : decode cX10_way 163 = .ok (.iload_n 3, 1) := by decide +kernel
theorem dX10_way_164 : decode cX10_way 164 = .ok (.imul, 1) := by decide +kernel
theorem dX10_way_165 : decode cX10_way 165 = .ok (.iadd, 1) := by decide +kernel
theorem dX10_way_166 : decode cX10_way 166 = .ok (.iload_n 2, 1) := by decide +kernel
theorem dX10_way_167 : decode cX10_way 167 = .ok (.iadd, 1) := by decide +kernel
theorem dX10_way_168 : decode cX10_way 168 = .ok (.iaload, 1) := by decide +kernel
theorem dX10_way_169 : decode cX10_way 169 = .ok (.ireturn, 1) := by decide +kernel
theorem dX10_way_170 : decode cX10_way 170 = .ok (.iinc 3 1, 3) := by decide +kernel
theorem dX10_way_173 : decode cX10_way 173 = .ok (.goto (-143), 3) := by decide +kernel
theorem dX10_way_176 : decode cX10_way 176 = .ok (.iconst (-1), 1) := by decide +kernel
theorem dX10_way_177 : decode cX10_way 177 = .ok (.ireturn, 1) := by decide +kernel
theorem dX10_waits_0 : decode cX10_waits 0 = .ok (.iload_n 1, 1) := by decide +kernel
theorem dX10_waits_1 : decode cX10_waits 1 = .ok (.iconst 0, 1) := by decide +kernel
theorem dX10_waits_2 : decode cX10_waits 2 = .ok (.aload_n 0, 1) := by decide +kernel
theorem dX10_waits_3 : decode cX10_waits 3 = .ok (.getfield 7, 3) := by decide +kernel
theorem dX10_waits_6 : decode cX10_waits 6 = .ok (.bipush 17, 2) := by decide +kernel
theorem dX10_waits_8 : decode cX10_waits 8 = .ok (.iaload, 1) := by decide +kernel
theorem dX10_waits_9 : decode cX10_waits 9 = .ok (.iconst 1, 1) := by decide +kernel
theorem dX10_waits_10 : decode cX10_waits 10 = .ok (.isub, 1) := by decide +kernel
theorem dX10_waits_11 : decode cX10_waits 11 = .ok (.invokestatic 51, 3) := by decide +kernel
theorem dX10_waits_14 : decode cX10_waits 14 = .ok (.ifCond .eq 16, 3) := by decide +kernel
theorem dX10_waits_17 : decode cX10_waits 17 = .ok (.aload_n 0, 1) := by decide +kernel
theorem dX10_waits_18 : decode cX10_waits 18 = .ok (.getfield 7, 3) := by decide +kernel
theorem dX10_waits_21 : decode cX10_waits 21 = .ok (.sipush 2012, 3) := by decide +kernel
theorem dX10_waits_24 : decode cX10_waits 24 = .ok (.iload_n 1, 1) := by decide +kernel
theorem dX10_waits_25 : decode cX10_waits 25 = .ok (.iadd, 1) := by decide +kernel
theorem dX10_waits_26 : decode cX10_waits 26 = .ok (.iaload, 1) := by decide +kernel
theorem dX10_waits_27 : decode cX10_waits 27 = .ok (.goto 4, 3) := by decide +kernel
theorem dX10_waits_30 : decode cX10_waits 30 = .ok (.iconst (-1), 1) := by decide +kernel
theorem dX10_waits_31 : decode cX10_waits 31 = .ok (.ireturn, 1) := by decide +kernel
theorem dX10_late_0 : decode cX10_late 0 = .ok (.aload_n 0, 1) := by decide +kernel
theorem dX10_late_1 : decode cX10_late 1 = .ok (.getfield 7, 3) := by decide +kernel
theorem dX10_late_4 : decode cX10_late 4 = .ok (.bipush 9, 2) := by decide +kernel
theorem dX10_late_6 : decode cX10_late 6 = .ok (.iaload, 1) := by decide +kernel
theorem dX10_late_7 : decode cX10_late 7 = .ok (.istore_n 1, 1) := by decide +kernel
theorem dX10_late_8 : decode cX10_late 8 = .ok (.iconst 0, 1) := by decide +kernel
theorem dX10_late_9 : decode cX10_late 9 = .ok (.istore_n 2, 1) := by decide +kernel
theorem dX10_late_10 : decode cX10_late 10 = .ok (.iload_n 2, 1) := by decide +kernel
theorem dX10_late_11 : decode cX10_late 11 = .ok (.aload_n 0, 1) := by decide +kernel
theorem dX10_late_12 : decode cX10_late 12 = .ok (.getfield 7, 3) := by decide +kernel
theorem dX10_late_15 : decode cX10_late 15 = .ok (.bipush 14, 2) := by decide +kernel
theorem dX10_late_17 : decode cX10_late 17 = .ok (.iaload, 1) := by decide +kernel
theorem dX10_late_18 : decode cX10_late 18 = .ok (.if_icmp .ge 32, 3) := by decide +kernel
theorem dX10_late_21 : decode cX10_late 21 = .ok (.iload_n 1, 1) := by decide +kernel
theorem dX10_late_22 : decode cX10_late 22 = .ok (.aload_n 0, 1) := by decide +kernel
theorem dX10_late_23 : decode cX10_late 23 = .ok (.getfield 7, 3) := by decide +kernel
theorem dX10_late_26 : decode cX10_late 26 = .ok (.iconst 5, 1) := by decide +kernel
theorem dX10_late_27 : decode cX10_late 27 = .ok (.iaload, 1) := by decide +kernel
theorem dX10_late_28 : decode cX10_late 28 = .ok (.aload_n 0, 1) := by decide +kernel
theorem dX10_late_29 : decode cX10_late 29 = .ok (.getfield 7, 3) := by decide +kernel
theorem dX10_late_32 : decode cX10_late 32 = .ok (.bipush 92, 2) := by decide +kernel
theorem dX10_late_34 : decode cX10_late 34 = .ok (.iconst 4, 1) := by decide +kernel
theorem dX10_late_35 : decode cX10_late 35 = .ok (.iload_n 2, 1) := by decide +kernel
theorem dX10_late_36 : decode cX10_late 36 = .ok (.imul, 1) := by decide +kernel
theorem dX10_late_37 : decode cX10_late 37 = .ok (.iadd, 1) := by decide +kernel
theorem dX10_late_38 : decode cX10_late 38 = .ok (.iconst 2, 1) := by decide +kernel
theorem dX10_late_39 : decode cX10_late 39 = .ok (.iadd, 1) := by decide +kernel
theorem dX10_late_40 : decode cX10_late 40 = .ok (.iaload, 1) := by decide +kernel
theorem dX10_late_41 : decode cX10_late 41 = .ok (.isub, 1) := by decide +kernel
theorem dX10_late_42 : decode cX10_late 42 = .ok (.iadd, 1) := by decide +kernel
theorem dX10_late_43 : decode cX10_late 43 = .ok (.istore_n 1, 1) := by decide +kernel
theorem dX10_late_44 : decode cX10_late 44 = .ok (.iinc 2 1, 3) := by decide +kernel
theorem dX10_late_47 : decode cX10_late 47 = .ok (.goto (-37), 3) := by decide +kernel
theorem dX10_late_50 : decode cX10_late 50 = .ok (.iload_n 1, 1) := by decide +kernel
theorem dX10_late_51 : decode cX10_late 51 = .ok (.ireturn, 1) := by decide +kernel
theorem dX10_mostLate_0 : decode cX10_mostLate 0 = .ok (.aload_n 0, 1) := by decide +kernel
theorem dX10_mostLate_1 : decode cX10_mostLate 1 = .ok (.getfield 7, 3) := by decide +kernel
theorem dX10_mostLate_4 : decode cX10_mostLate 4 = .ok (.bipush 10, 2) := by decide +kernel
theorem dX10_mostLate_6 : decode cX10_mostLate 6 = .ok (.iaload, 1) := by decide +kernel
theorem dX10_mostLate_7 : decode cX10_mostLate 7 = .ok (.istore_n 1, 1) := by decide +kernel
theorem dX10_mostLate_8 : decode cX10_mostLate 8 = .ok (.iconst 0, 1) := by decide +kernel
theorem dX10_mostLate_9 : decode cX10_mostLate 9 = .ok (.istore_n 2, 1) := by decide +kernel
theorem dX10_mostLate_10 : decode cX10_mostLate 10 = .ok (.iload_n 2, 1) := by decide +kernel
theorem dX10_mostLate_11 : decode cX10_mostLate 11 = .ok (.aload_n 0, 1) := by decide +kernel
theorem dX10_mostLate_12 : decode cX10_mostLate 12 = .ok (.getfield 7, 3) := by decide +kernel
theorem dX10_mostLate_15 : decode cX10_mostLate 15 = .ok (.bipush 14, 2) := by decide +kernel
theorem dX10_mostLate_17 : decode cX10_mostLate 17 = .ok (.iaload, 1) := by decide +kernel
theorem dX10_mostLate_18 : decode cX10_mostLate 18 = .ok (.if_icmp .ge 41, 3) := by decide +kernel
theorem dX10_mostLate_21 : decode cX10_mostLate 21 = .ok (.aload_n 0, 1) := by decide +kernel
theorem dX10_mostLate_22 : decode cX10_mostLate 22 = .ok (.getfield 7, 3) := by decide +kernel
theorem dX10_mostLate_25 : decode cX10_mostLate 25 = .ok (.iconst 5, 1) := by decide +kernel
theorem dX10_mostLate_26 : decode cX10_mostLate 26 = .ok (.iaload, 1) := by decide +kernel
theorem dX10_mostLate_27 : decode cX10_mostLate 27 = .ok (.aload_n 0, 1) := by decide +kernel
theorem dX10_mostLate_28 : decode cX10_mostLate 28 = .ok (.getfield 7, 3) := by decide +kernel
theorem dX10_mostLate_31 : decode cX10_mostLate 31 = .ok (.bipush 92, 2) := by decide +kernel
theorem dX10_mostLate_33 : decode cX10_mostLate 33 = .ok (.iconst 4, 1) := by decide +kernel
theorem dX10_mostLate_34 : decode cX10_mostLate 34 = .ok (.iload_n 2, 1) := by decide +kernel
theorem dX10_mostLate_35 : decode cX10_mostLate 35 = .ok (.imul, 1) := by decide +kernel
theorem dX10_mostLate_36 : decode cX10_mostLate 36 = .ok (.iadd, 1) := by decide +kernel
theorem dX10_mostLate_37 : decode cX10_mostLate 37 = .ok (.iconst 2, 1) := by decide +kernel
theorem dX10_mostLate_38 : decode cX10_mostLate 38 = .ok (.iadd, 1) := by decide +kernel
theorem dX10_mostLate_39 : decode cX10_mostLate 39 = .ok (.iaload, 1) := by decide +kernel
theorem dX10_mostLate_40 : decode cX10_mostLate 40 = .ok (.isub, 1) := by decide +kernel
theorem dX10_mostLate_41 : decode cX10_mostLate 41 = .ok (.istore_n 3, 1) := by decide +kernel
theorem dX10_mostLate_42 : decode cX10_mostLate 42 = .ok (.iload_n 3, 1) := by decide +kernel
theorem dX10_mostLate_43 : decode cX10_mostLate 43 = .ok (.iload_n 1, 1) := by decide +kernel
theorem dX10_mostLate_44 : decode cX10_mostLate 44 = .ok (.if_icmp .le 7, 3) := by decide +kernel
theorem dX10_mostLate_47 : decode cX10_mostLate 47 = .ok (.iload_n 3, 1) := by decide +kernel
theorem dX10_mostLate_48 : decode cX10_mostLate 48 = .ok (.goto 4, 3) := by decide +kernel
theorem dX10_mostLate_51 : decode cX10_mostLate 51 = .ok (.iload_n 1, 1) := by decide +kernel
theorem dX10_mostLate_52 : decode cX10_mostLate 52 = .ok (.istore_n 1, 1) := by decide +kernel
theorem dX10_mostLate_53 : decode cX10_mostLate 53 = .ok (.iinc 2 1, 3) := by decide +kernel
theorem dX10_mostLate_56 : decode cX10_mostLate 56 = .ok (.goto (-46), 3) := by decide +kernel
theorem dX10_mostLate_59 : decode cX10_mostLate 59 = .ok (.iload_n 1, 1) := by decide +kernel
theorem dX10_mostLate_60 : decode cX10_mostLate 60 = .ok (.ireturn, 1) := by decide +kernel
theorem dX10_played_0 : decode cX10_played 0 = .ok (.iload_n 1, 1) := by decide +kernel
theorem dX10_played_1 : decode cX10_played 1 = .ok (.tableswitch 140 0 10 #[59, 66, 74, 82, 90, 98, 103, 108, 116, 124, 132], 59) := by decide +kernel
theorem dX10_played_60 : decode cX10_played 60 = .ok (.aload_n 0, 1) := by decide +kernel
theorem dX10_played_61 : decode cX10_played 61 = .ok (.getfield 7, 3) := by decide +kernel
theorem dX10_played_64 : decode cX10_played 64 = .ok (.iconst 5, 1) := by decide +kernel
theorem dX10_played_65 : decode cX10_played 65 = .ok (.iaload, 1) := by decide +kernel
theorem dX10_played_66 : decode cX10_played 66 = .ok (.ireturn, 1) := by decide +kernel
theorem dX10_played_67 : decode cX10_played 67 = .ok (.aload_n 0, 1) := by decide +kernel
theorem dX10_played_68 : decode cX10_played 68 = .ok (.getfield 7, 3) := by decide +kernel
theorem dX10_played_71 : decode cX10_played 71 = .ok (.bipush 6, 2) := by decide +kernel
theorem dX10_played_73 : decode cX10_played 73 = .ok (.iaload, 1) := by decide +kernel
theorem dX10_played_74 : decode cX10_played 74 = .ok (.ireturn, 1) := by decide +kernel
theorem dX10_played_75 : decode cX10_played 75 = .ok (.aload_n 0, 1) := by decide +kernel
theorem dX10_played_76 : decode cX10_played 76 = .ok (.getfield 7, 3) := by decide +kernel
theorem dX10_played_79 : decode cX10_played 79 = .ok (.bipush 7, 2) := by decide +kernel
theorem dX10_played_81 : decode cX10_played 81 = .ok (.iaload, 1) := by decide +kernel
theorem dX10_played_82 : decode cX10_played 82 = .ok (.ireturn, 1) := by decide +kernel
theorem dX10_played_83 : decode cX10_played 83 = .ok (.aload_n 0, 1) := by decide +kernel
theorem dX10_played_84 : decode cX10_played 84 = .ok (.getfield 7, 3) := by decide +kernel
theorem dX10_played_87 : decode cX10_played 87 = .ok (.bipush 14, 2) := by decide +kernel
theorem dX10_played_89 : decode cX10_played 89 = .ok (.iaload, 1) := by decide +kernel
theorem dX10_played_90 : decode cX10_played 90 = .ok (.ireturn, 1) := by decide +kernel
theorem dX10_played_91 : decode cX10_played 91 = .ok (.aload_n 0, 1) := by decide +kernel
theorem dX10_played_92 : decode cX10_played 92 = .ok (.getfield 7, 3) := by decide +kernel
theorem dX10_played_95 : decode cX10_played 95 = .ok (.bipush 8, 2) := by decide +kernel
theorem dX10_played_97 : decode cX10_played 97 = .ok (.iaload, 1) := by decide +kernel
theorem dX10_played_98 : decode cX10_played 98 = .ok (.ireturn, 1) := by decide +kernel
theorem dX10_played_99 : decode cX10_played 99 = .ok (.aload_n 0, 1) := by decide +kernel
theorem dX10_played_100 : decode cX10_played 100 = .ok (.invokevirtual 239, 3) := by decide +kernel
theorem dX10_played_103 : decode cX10_played 103 = .ok (.ireturn, 1) := by decide +kernel
theorem dX10_played_104 : decode cX10_played 104 = .ok (.aload_n 0, 1) := by decide +kernel
theorem dX10_played_105 : decode cX10_played 105 = .ok (.invokevirtual 242, 3) := by decide +kernel
theorem dX10_played_108 : decode cX10_played 108 = .ok (.ireturn, 1) := by decide +kernel
theorem dX10_played_109 : decode cX10_played 109 = .ok (.aload_n 0, 1) := by decide +kernel
theorem dX10_played_110 : decode cX10_played 110 = .ok (.getfield 7, 3) := by decide +kernel
theorem dX10_played_113 : decode cX10_played 113 = .ok (.bipush 11, 2) := by decide +kernel
theorem dX10_played_115 : decode cX10_played 115 = .ok (.iaload, 1) := by decide +kernel
theorem dX10_played_116 : decode cX10_played 116 = .ok (.ireturn, 1) := by decide +kernel
theorem dX10_played_117 : decode cX10_played 117 = .ok (.aload_n 0, 1) := by decide +kernel
theorem dX10_played_118 : decode cX10_played 118 = .ok (.getfield 7, 3) := by decide +kernel
theorem dX10_played_121 : decode cX10_played 121 = .ok (.bipush 12, 2) := by decide +kernel
theorem dX10_played_123 : decode cX10_played 123 = .ok (.iaload, 1) := by decide +kernel
theorem dX10_played_124 : decode cX10_played 124 = .ok (.ireturn, 1) := by decide +kernel
theorem dX10_played_125 : decode cX10_played 125 = .ok (.aload_n 0, 1) := by decide +kernel
theorem dX10_played_126 : decode cX10_played 126 = .ok (.getfield 7, 3) := by decide +kernel
theorem dX10_played_129 : decode cX10_played 129 = .ok (.bipush 16, 2) := by decide +kernel
theorem dX10_played_131 : decode cX10_played 131 = .ok (.iaload, 1) := by decide +kernel
theorem dX10_played_132 : decode cX10_played 132 = .ok (.ireturn, 1) := by decide +kernel
theorem dX10_played_133 : decode cX10_played 133 = .ok (.aload_n 0, 1) := by decide +kernel
theorem dX10_played_134 : decode cX10_played 134 = .ok (.getfield 7, 3) := by decide +kernel
theorem dX10_played_137 : decode cX10_played 137 = .ok (.bipush 17, 2) := by decide +kernel
theorem dX10_played_139 : decode cX10_played 139 = .ok (.iaload, 1) := by decide +kernel
theorem dX10_played_140 : decode cX10_played 140 = .ok (.ireturn, 1) := by decide +kernel
theorem dX10_played_141 : decode cX10_played 141 = .ok (.iconst (-1), 1) := by decide +kernel
theorem dX10_played_142 : decode cX10_played 142 = .ok (.ireturn, 1) := by decide +kernel
theorem dX10_power_0 : decode cX10_power 0 = .ok (.lconst 1, 1) := by decide +kernel
theorem dX10_power_1 : decode cX10_power 1 = .ok (.lstore_n 3, 1) := by decide +kernel
theorem dX10_power_2 : decode cX10_power 2 = .ok (.iconst 0, 1) := by decide +kernel
theorem dX10_power_3 : decode cX10_power 3 = .ok (.istore 5, 2) := by decide +kernel
theorem dX10_power_5 : decode cX10_power 5 = .ok (.iload 5, 2) := by decide +kernel
theorem dX10_power_7 : decode cX10_power 7 = .ok (.iload_n 2, 1) := by decide +kernel
theorem dX10_power_8 : decode cX10_power 8 = .ok (.if_icmp .ge 13, 3) := by decide +kernel
theorem dX10_power_11 : decode cX10_power 11 = .ok (.lload_n 3, 1) := by decide +kernel
theorem dX10_power_12 : decode cX10_power 12 = .ok (.lload_n 0, 1) := by decide +kernel
theorem dX10_power_13 : decode cX10_power 13 = .ok (.lmul, 1) := by decide +kernel
theorem dX10_power_14 : decode cX10_power 14 = .ok (.lstore_n 3, 1) := by decide +kernel
theorem dX10_power_15 : decode cX10_power 15 = .ok (.iinc 5 1, 3) := by decide +kernel
theorem dX10_power_18 : decode cX10_power 18 = .ok (.goto (-13), 3) := by decide +kernel
theorem dX10_power_21 : decode cX10_power 21 = .ok (.lload_n 3, 1) := by decide +kernel
theorem dX10_power_22 : decode cX10_power 22 = .ok (.lreturn, 1) := by decide +kernel
theorem dX10_outOf_0 : decode cX10_outOf 0 = .ok (.aload_n 0, 1) := by decide +kernel
theorem dX10_outOf_1 : decode cX10_outOf 1 = .ok (.getfield 7, 3) := by decide +kernel
theorem dX10_outOf_4 : decode cX10_outOf 4 = .ok (.bipush 32, 2) := by decide +kernel
theorem dX10_outOf_6 : decode cX10_outOf 6 = .ok (.iload_n 1, 1) := by decide +kernel
theorem dX10_outOf_7 : decode cX10_outOf 7 = .ok (.iadd, 1) := by decide +kernel
theorem dX10_outOf_8 : decode cX10_outOf 8 = .ok (.iaload, 1) := by decide +kernel
theorem dX10_outOf_9 : decode cX10_outOf 9 = .ok (.istore_n 3, 1) := by decide +kernel
theorem dX10_outOf_10 : decode cX10_outOf 10 = .ok (.iload_n 2, 1) := by decide +kernel
theorem dX10_outOf_11 : decode cX10_outOf 11 = .ok (.iload_n 3, 1) := by decide +kernel
theorem dX10_outOf_12 : decode cX10_outOf 12 = .ok (.if_icmp .le 5, 3) := by decide +kernel
theorem dX10_outOf_15 : decode cX10_outOf 15 = .ok (.lconst 0, 1) := by decide +kernel
theorem dX10_outOf_16 : decode cX10_outOf 16 = .ok (.lreturn, 1) := by decide +kernel
theorem dX10_outOf_17 : decode cX10_outOf 17 = .ok (.lconst 1, 1) := by decide +kernel
theorem dX10_outOf_18 : decode cX10_outOf 18 = .ok (.lstore 4, 2) := by decide +kernel
theorem dX10_outOf_20 : decode cX10_outOf 20 = .ok (.iconst 0, 1) := by decide +kernel
theorem dX10_outOf_21 : decode cX10_outOf 21 = .ok (.istore 6, 2) := by decide +kernel
theorem dX10_outOf_23 : decode cX10_outOf 23 = .ok (.iload 6, 2) := by decide +kernel
theorem dX10_outOf_25 : decode cX10_outOf 25 = .ok (.iload_n 2, 1) := by decide +kernel
theorem dX10_outOf_26 : decode cX10_outOf 26 = .ok (.if_icmp .ge 25, 3) := by decide +kernel
theorem dX10_outOf_29 : decode cX10_outOf 29 = .ok (.lload 4, 2) := by decide +kernel
theorem dX10_outOf_31 : decode cX10_outOf 31 = .ok (.iload_n 3, 1) := by decide +kernel
theorem dX10_outOf_32 : decode cX10_outOf 32 = .ok (.iload 6, 2) := by decide +kernel
theorem dX10_outOf_34 : decode cX10_outOf 34 = .ok (.isub, 1) := by decide +kernel
theorem dX10_outOf_35 : decode cX10_outOf 35 = .ok (.i2l, 1) := by decide +kernel
theorem dX10_outOf_36 : decode cX10_outOf 36 = .ok (.lmul, 1) := by decide +kernel
theorem dX10_outOf_37 : decode cX10_outOf 37 = .ok (.iload 6, 2) := by decide +kernel
theorem dX10_outOf_39 : decode cX10_outOf 39 = .ok (.iconst 1, 1) := by decide +kernel
theorem dX10_outOf_40 : decode cX10_outOf 40 = .ok (.iadd, 1) := by decide +kernel
theorem dX10_outOf_41 : decode cX10_outOf 41 = .ok (.i2l, 1) := by decide +kernel
theorem dX10_outOf_42 : decode cX10_outOf 42 = .ok (.ldiv, 1) := by decide +kernel
theorem dX10_outOf_43 : decode cX10_outOf 43 = .ok (.lstore 4, 2) := by decide +kernel
theorem dX10_outOf_45 : decode cX10_outOf 45 = .ok (.iinc 6 1, 3) := by decide +kernel
theorem dX10_outOf_48 : decode cX10_outOf 48 = .ok (.goto (-25), 3) := by decide +kernel
theorem dX10_outOf_51 : decode cX10_outOf 51 = .ok (.lload 4, 2) := by decide +kernel
theorem dX10_outOf_53 : decode cX10_outOf 53 = .ok (.aload_n 0, 1) := by decide +kernel
theorem dX10_outOf_54 : decode cX10_outOf 54 = .ok (.getfield 7, 3) := by decide +kernel
theorem dX10_outOf_57 : decode cX10_outOf 57 = .ok (.bipush 41, 2) := by decide +kernel
theorem dX10_outOf_59 : decode cX10_outOf 59 = .ok (.iload_n 1, 1) := by decide +kernel
theorem dX10_outOf_60 : decode cX10_outOf 60 = .ok (.iadd, 1) := by decide +kernel
theorem dX10_outOf_61 : decode cX10_outOf 61 = .ok (.iaload, 1) := by decide +kernel
theorem dX10_outOf_62 : decode cX10_outOf 62 = .ok (.i2l, 1) := by decide +kernel
theorem dX10_outOf_63 : decode cX10_outOf 63 = .ok (.iload_n 2, 1) := by decide +kernel
theorem dX10_outOf_64 : decode cX10_outOf 64 = .ok (.invokestatic 245, 3) := by decide +kernel
theorem dX10_outOf_67 : decode cX10_outOf 67 = .ok (.lmul, 1) := by decide +kernel
theorem dX10_outOf_68 : decode cX10_outOf 68 = .ok (.bipush 12, 2) := by decide +kernel
theorem dX10_outOf_70 : decode cX10_outOf 70 = .ok (.aload_n 0, 1) := by decide +kernel
theorem dX10_outOf_71 : decode cX10_outOf 71 = .ok (.getfield 7, 3) := by decide +kernel
theorem dX10_outOf_74 : decode cX10_outOf 74 = .ok (.bipush 41, 2) := by decide +kernel
theorem dX10_outOf_76 : decode cX10_outOf 76 = .ok (.iload_n 1, 1) := by decide +kernel
theorem dX10_outOf_77 : decode cX10_outOf 77 = .ok (.iadd, 1) := by decide +kernel
theorem dX10_outOf_78 : decode cX10_outOf 78 = .ok (.iaload, 1) := by decide +kernel
theorem dX10_outOf_79 : decode cX10_outOf 79 = .ok (.isub, 1) := by decide +kernel
theorem dX10_outOf_80 : decode cX10_outOf 80 = .ok (.i2l, 1) := by decide +kernel
theorem dX10_outOf_81 : decode cX10_outOf 81 = .ok (.iload_n 3, 1) := by decide +kernel
theorem dX10_outOf_82 : decode cX10_outOf 82 = .ok (.iload_n 2, 1) := by decide +kernel
theorem dX10_outOf_83 : decode cX10_outOf 83 = .ok (.isub, 1) := by decide +kernel
theorem dX10_outOf_84 : decode cX10_outOf 84 = .ok (.invokestatic 245, 3) := by decide +kernel
theorem dX10_outOf_87 : decode cX10_outOf 87 = .ok (.lmul, 1) := by decide +kernel
theorem dX10_outOf_88 : decode cX10_outOf 88 = .ok (.ldc2_w 249, 3) := by decide +kernel
theorem dX10_outOf_91 : decode cX10_outOf 91 = .ok (.bipush 8, 2) := by decide +kernel
theorem dX10_outOf_93 : decode cX10_outOf 93 = .ok (.iload_n 3, 1) := by decide +kernel
theorem dX10_outOf_94 : decode cX10_outOf 94 = .ok (.isub, 1) := by decide +kernel
theorem dX10_outOf_95 : decode cX10_outOf 95 = .ok (.invokestatic 245, 3) := by decide +kernel
theorem dX10_outOf_98 : decode cX10_outOf 98 = .ok (.lmul, 1) := by decide +kernel
theorem dX10_outOf_99 : decode cX10_outOf 99 = .ok (.lreturn, 1) := by decide +kernel
theorem dX10_lackOf_0 : decode cX10_lackOf 0 = .ok (.lconst 0, 1) := by decide +kernel
theorem dX10_lackOf_1 : decode cX10_lackOf 1 = .ok (.lstore_n 3, 1) := by decide +kernel
theorem dX10_lackOf_2 : decode cX10_lackOf 2 = .ok (.iload_n 2, 1) := by decide +kernel
theorem dX10_lackOf_3 : decode cX10_lackOf 3 = .ok (.iconst 1, 1) := by decide +kernel
theorem dX10_lackOf_4 : decode cX10_lackOf 4 = .ok (.iadd, 1) := by decide +kernel
theorem dX10_lackOf_5 : decode cX10_lackOf 5 = .ok (.istore 5, 2) := by decide +kernel
theorem dX10_lackOf_7 : decode cX10_lackOf 7 = .ok (.iload 5, 2) := by decide +kernel
theorem dX10_lackOf_9 : decode cX10_lackOf 9 = .ok (.bipush 8, 2) := by decide +kernel
theorem dX10_lackOf_11 : decode cX10_lackOf 11 = .ok (.if_icmp .gt 25, 3) := by decide +kernel
theorem dX10_lackOf_14 : decode cX10_lackOf 14 = .ok (.lload_n 3, 1) := by decide +kernel
theorem dX10_lackOf_15 : decode cX10_lackOf 15 = .ok (.iload 5, 2) := by decide +kernel
theorem dX10_lackOf_17 : decode cX10_lackOf 17 = .ok (.iload_n 2, 1) := by decide +kernel
theorem dX10_lackOf_18 : decode cX10_lackOf 18 = .ok (.isub, 1) := by decide +kernel
theorem dX10_lackOf_19 : decode cX10_lackOf 19 = .ok (.i2l, 1) := by decide +kernel
theorem dX10_lackOf_20 : decode cX10_lackOf 20 = .ok (.aload_n 0, 1) := by decide +kernel
theorem dX10_lackOf_21 : decode cX10_lackOf 21 = .ok (.iload_n 1, 1) := by decide +kernel
theorem dX10_lackOf_22 : decode cX10_lackOf 22 = .ok (.iload 5, 2) := by decide +kernel
theorem dX10_lackOf_24 : decode cX10_lackOf 24 = .ok (.invokevirtual 251, 3) := by decide +kernel
theorem dX10_lackOf_27 : decode cX10_lackOf 27 = .ok (.lmul, 1) := by decide +kernel
theorem dX10_lackOf_28 : decode cX10_lackOf 28 = .ok (.ladd, 1) := by decide +kernel
theorem dX10_lackOf_29 : decode cX10_lackOf 29 = .ok (.lstore_n 3, 1) := by decide +kernel
theorem dX10_lackOf_30 : decode cX10_lackOf 30 = .ok (.iinc 5 1, 3) := by decide +kernel
theorem dX10_lackOf_33 : decode cX10_lackOf 33 = .ok (.goto (-26), 3) := by decide +kernel
theorem dX10_lackOf_36 : decode cX10_lackOf 36 = .ok (.lload_n 3, 1) := by decide +kernel
theorem dX10_lackOf_37 : decode cX10_lackOf 37 = .ok (.lreturn, 1) := by decide +kernel
theorem dX10_out_0 : decode cX10_out 0 = .ok (.aload_n 0, 1) := by decide +kernel
theorem dX10_out_1 : decode cX10_out 1 = .ok (.iload_n 1, 1) := by decide +kernel
theorem dX10_out_2 : decode cX10_out 2 = .ok (.iload_n 2, 1) := by decide +kernel
theorem dX10_out_3 : decode cX10_out 3 = .ok (.invokevirtual 211, 3) := by decide +kernel
theorem dX10_out_6 : decode cX10_out 6 = .ok (.ifCond .eq 26, 3) := by decide +kernel
theorem dX10_out_9 : decode cX10_out 9 = .ok (.iload_n 3, 1) := by decide +kernel
theorem dX10_out_10 : decode cX10_out 10 = .ok (.iconst 0, 1) := by decide +kernel
theorem dX10_out_11 : decode cX10_out 11 = .ok (.bipush 8, 2) := by decide +kernel
theorem dX10_out_13 : decode cX10_out 13 = .ok (.invokestatic 51, 3) := by decide +kernel
theorem dX10_out_16 : decode cX10_out 16 = .ok (.ifCond .eq 16, 3) := by decide +kernel
theorem dX10_out_19 : decode cX10_out 19 = .ok (.aload_n 0, 1) := by decide +kernel
theorem dX10_out_20 : decode cX10_out 20 = .ok (.iload_n 1, 1) := by decide +kernel
theorem dX10_out_21 : decode cX10_out 21 = .ok (.iload_n 2, 1) := by decide +kernel
theorem dX10_out_22 : decode cX10_out 22 = .ok (.invokestatic 104, 3) := by decide +kernel
theorem dX10_out_25 : decode cX10_out 25 = .ok (.iload_n 3, 1) := by decide +kernel
theorem dX10_out_26 : decode cX10_out 26 = .ok (.invokevirtual 251, 3) := by decide +kernel
theorem dX10_out_29 : decode cX10_out 29 = .ok (.goto 6, 3) := by decide +kernel
theorem dX10_out_32 : decode cX10_out 32 = .ok (.ldc2_w 255, 3) := by decide +kernel
theorem dX10_out_35 : decode cX10_out 35 = .ok (.lreturn, 1) := by decide +kernel
theorem dX10_lack_0 : decode cX10_lack 0 = .ok (.aload_n 0, 1) := by decide +kernel
theorem dX10_lack_1 : decode cX10_lack 1 = .ok (.iload_n 1, 1) := by decide +kernel
theorem dX10_lack_2 : decode cX10_lack 2 = .ok (.iload_n 2, 1) := by decide +kernel
theorem dX10_lack_3 : decode cX10_lack 3 = .ok (.invokevirtual 211, 3) := by decide +kernel
theorem dX10_lack_6 : decode cX10_lack 6 = .ok (.ifCond .eq 26, 3) := by decide +kernel
theorem dX10_lack_9 : decode cX10_lack 9 = .ok (.iload_n 3, 1) := by decide +kernel
theorem dX10_lack_10 : decode cX10_lack 10 = .ok (.iconst 0, 1) := by decide +kernel
theorem dX10_lack_11 : decode cX10_lack 11 = .ok (.bipush 9, 2) := by decide +kernel
theorem dX10_lack_13 : decode cX10_lack 13 = .ok (.invokestatic 51, 3) := by decide +kernel
theorem dX10_lack_16 : decode cX10_lack 16 = .ok (.ifCond .eq 16, 3) := by decide +kernel
theorem dX10_lack_19 : decode cX10_lack 19 = .ok (.aload_n 0, 1) := by decide +kernel
theorem dX10_lack_20 : decode cX10_lack 20 = .ok (.iload_n 1, 1) := by decide +kernel
theorem dX10_lack_21 : decode cX10_lack 21 = .ok (.iload_n 2, 1) := by decide +kernel
theorem dX10_lack_22 : decode cX10_lack 22 = .ok (.invokestatic 104, 3) := by decide +kernel
theorem dX10_lack_25 : decode cX10_lack 25 = .ok (.iload_n 3, 1) := by decide +kernel
theorem dX10_lack_26 : decode cX10_lack 26 = .ok (.invokevirtual 257, 3) := by decide +kernel
theorem dX10_lack_29 : decode cX10_lack 29 = .ok (.goto 6, 3) := by decide +kernel
theorem dX10_lack_32 : decode cX10_lack 32 = .ok (.ldc2_w 255, 3) := by decide +kernel
theorem dX10_lack_35 : decode cX10_lack 35 = .ok (.lreturn, 1) := by decide +kernel
theorem dX10_lacksBySpares_0 : decode cX10_lacksBySpares 0 = .ok (.lconst 0, 1) := by decide +kernel
theorem dX10_lacksBySpares_1 : decode cX10_lacksBySpares 1 = .ok (.lstore_n 2, 1) := by decide +kernel
theorem dX10_lacksBySpares_2 : decode cX10_lacksBySpares 2 = .ok (.iconst 0, 1) := by decide +kernel
theorem dX10_lacksBySpares_3 : decode cX10_lacksBySpares 3 = .ok (.istore 4, 2) := by decide +kernel
theorem dX10_lacksBySpares_5 : decode cX10_lacksBySpares 5 = .ok (.iload 4, 2) := by decide +kernel
theorem dX10_lacksBySpares_7 : decode cX10_lacksBySpares 7 = .ok (.aload_n 0, 1) := by decide +kernel
theorem dX10_lacksBySpares_8 : decode cX10_lacksBySpares 8 = .ok (.getfield 7, 3) := by decide +kernel
theorem dX10_lacksBySpares_11 : decode cX10_lacksBySpares 11 = .ok (.iconst 1, 1) := by decide +kernel
theorem dX10_lacksBySpares_12 : decode cX10_lacksBySpares 12 = .ok (.iaload, 1) := by decide +kernel
theorem dX10_lacksBySpares_13 : decode cX10_lacksBySpares 13 = .ok (.if_icmp .ge 52, 3) := by decide +kernel
theorem dX10_lacksBySpares_16 : decode cX10_lacksBySpares 16 = .ok (.iconst 0, 1) := by decide +kernel
theorem dX10_lacksBySpares_17 : decode cX10_lacksBySpares 17 = .ok (.istore 5, 2) := by decide +kernel
theorem dX10_lacksBySpares_19 : decode cX10_lacksBySpares 19 = .ok (.iload 5, 2) := by decide +kernel
theorem dX10_lacksBySpares_21 : decode cX10_lacksBySpares 21 = .ok (.aload_n 0, 1) := by decide +kernel
theorem dX10_lacksBySpares_22 : decode cX10_lacksBySpares 22 = .ok (.getfield 7, 3) := by decide +kernel
theorem dX10_lacksBySpares_25 : decode cX10_lacksBySpares 25 = .ok (.iconst 0, 1) := by decide +kernel
theorem dX10_lacksBySpares_26 : decode cX10_lacksBySpares 26 = .ok (.iaload, 1) := by decide +kernel
theorem dX10_lacksBySpares_27 : decode cX10_lacksBySpares 27 = .ok (.if_icmp .ge 32, 3) := by decide +kernel
theorem dX10_lacksBySpares_30 : decode cX10_lacksBySpares 30 = .ok (.lload_n 2, 1) := by decide +kernel
theorem dX10_lacksBySpares_31 : decode cX10_lacksBySpares 31 = .ok (.aload_n 0, 1) := by decide +kernel
theorem dX10_lacksBySpares_32 : decode cX10_lacksBySpares 32 = .ok (.iload 4, 2) := by decide +kernel
theorem dX10_lacksBySpares_34 : decode cX10_lacksBySpares 34 = .ok (.iload 5, 2) := by decide +kernel
theorem dX10_lacksBySpares_36 : decode cX10_lacksBySpares 36 = .ok (.invokestatic 104, 3) := by decide +kernel
theorem dX10_lacksBySpares_39 : decode cX10_lacksBySpares 39 = .ok (.aload_n 1, 1) := by decide +kernel
theorem dX10_lacksBySpares_40 : decode cX10_lacksBySpares 40 = .ok (.iload 4, 2) := by decide +kernel
theorem dX10_lacksBySpares_42 : decode cX10_lacksBySpares 42 = .ok (.iload 5, 2) := by decide +kernel
theorem dX10_lacksBySpares_44 : decode cX10_lacksBySpares 44 = .ok (.invokestatic 104, 3) := by decide +kernel
theorem dX10_lacksBySpares_47 : decode cX10_lacksBySpares 47 = .ok (.iaload, 1) := by decide +kernel
theorem dX10_lacksBySpares_48 : decode cX10_lacksBySpares 48 = .ok (.invokevirtual 257, 3) := by decide +kernel
theorem dX10_lacksBySpares_51 : decode cX10_lacksBySpares 51 = .ok (.ladd, 1) := by decide +kernel
theorem dX10_lacksBySpares_52 : decode cX10_lacksBySpares 52 = .ok (.lstore_n 2, 1) := by decide +kernel
theorem dX10_lacksBySpares_53 : decode cX10_lacksBySpares 53 = .ok (.iinc 5 1, 3) := by decide +kernel
theorem dX10_lacksBySpares_56 : decode cX10_lacksBySpares 56 = .ok (.goto (-37), 3) := by decide +kernel
theorem dX10_lacksBySpares_59 : decode cX10_lacksBySpares 59 = .ok (.iinc 4 1, 3) := by decide +kernel
theorem dX10_lacksBySpares_62 : decode cX10_lacksBySpares 62 = .ok (.goto (-57), 3) := by decide +kernel
theorem dX10_lacksBySpares_65 : decode cX10_lacksBySpares 65 = .ok (.lload_n 2, 1) := by decide +kernel
theorem dX10_lacksBySpares_66 : decode cX10_lacksBySpares 66 = .ok (.lreturn, 1) := by decide +kernel
theorem dX10_lacks_0 : decode cX10_lacks 0 = .ok (.iconst 0, 1) := by decide +kernel
theorem dX10_lacks_1 : decode cX10_lacks 1 = .ok (.istore_n 1, 1) := by decide +kernel
theorem dX10_lacks_2 : decode cX10_lacks 2 = .ok (.iload_n 1, 1) := by decide +kernel
theorem dX10_lacks_3 : decode cX10_lacks 3 = .ok (.bipush 9, 2) := by decide +kernel
theorem dX10_lacks_5 : decode cX10_lacks 5 = .ok (.if_icmp .ge 24, 3) := by decide +kernel
theorem dX10_lacks_8 : decode cX10_lacks 8 = .ok (.aload_n 0, 1) := by decide +kernel
theorem dX10_lacks_9 : decode cX10_lacks 9 = .ok (.getfield 31, 3) := by decide +kernel
theorem dX10_lacks_12 : decode cX10_lacks 12 = .ok (.iload_n 1, 1) := by decide +kernel
theorem dX10_lacks_13 : decode cX10_lacks 13 = .ok (.aload_n 0, 1) := by decide +kernel
theorem dX10_lacks_14 : decode cX10_lacks 14 = .ok (.getfield 7, 3) := by decide +kernel
theorem dX10_lacks_17 : decode cX10_lacks 17 = .ok (.bipush 50, 2) := by decide +kernel
theorem dX10_lacks_19 : decode cX10_lacks 19 = .ok (.iload_n 1, 1) := by decide +kernel
theorem dX10_lacks_20 : decode cX10_lacks 20 = .ok (.iadd, 1) := by decide +kernel
theorem dX10_lacks_21 : decode cX10_lacks 21 = .ok (.iaload, 1) := by decide +kernel
theorem dX10_lacks_22 : decode cX10_lacks 22 = .ok (.iastore, 1) := by decide +kernel
theorem dX10_lacks_23 : decode cX10_lacks 23 = .ok (.iinc 1 1, 3) := by decide +kernel
theorem dX10_lacks_26 : decode cX10_lacks 26 = .ok (.goto (-24), 3) := by decide +kernel
theorem dX10_lacks_29 : decode cX10_lacks 29 = .ok (.aload_n 0, 1) := by decide +kernel
theorem dX10_lacks_30 : decode cX10_lacks 30 = .ok (.aload_n 0, 1) := by decide +kernel
theorem dX10_lacks_31 : decode cX10_lacks 31 = .ok (.getfield 31, 3) := by decide +kernel
theorem dX10_lacks_34 : decode cX10_lacks 34 = .ok (.invokevirtual 260, 3) := by decide +kernel
theorem dX10_lacks_37 : decode cX10_lacks 37 = .ok (.lreturn, 1) := by decide +kernel
theorem dX10_sure_0 : decode cX10_sure 0 = .ok (.aload_n 0, 1) := by decide +kernel
theorem dX10_sure_1 : decode cX10_sure 1 = .ok (.iload_n 1, 1) := by decide +kernel
theorem dX10_sure_2 : decode cX10_sure 2 = .ok (.iload_n 2, 1) := by decide +kernel
theorem dX10_sure_3 : decode cX10_sure 3 = .ok (.invokevirtual 211, 3) := by decide +kernel
theorem dX10_sure_6 : decode cX10_sure 6 = .ok (.ifCond .eq 13, 3) := by decide +kernel
theorem dX10_sure_9 : decode cX10_sure 9 = .ok (.iload_n 3, 1) := by decide +kernel
theorem dX10_sure_10 : decode cX10_sure 10 = .ok (.iconst 0, 1) := by decide +kernel
theorem dX10_sure_11 : decode cX10_sure 11 = .ok (.bipush 100, 2) := by decide +kernel
theorem dX10_sure_13 : decode cX10_sure 13 = .ok (.invokestatic 51, 3) := by decide +kernel
theorem dX10_sure_16 : decode cX10_sure 16 = .ok (.ifCond .ne 5, 3) := by decide +kernel
theorem dX10_sure_19 : decode cX10_sure 19 = .ok (.iconst (-1), 1) := by decide +kernel
theorem dX10_sure_20 : decode cX10_sure 20 = .ok (.ireturn, 1) := by decide +kernel
theorem dX10_sure_21 : decode cX10_sure 21 = .ok (.iconst 0, 1) := by decide +kernel
theorem dX10_sure_22 : decode cX10_sure 22 = .ok (.istore 4, 2) := by decide +kernel
theorem dX10_sure_24 : decode cX10_sure 24 = .ok (.aload_n 0, 1) := by decide +kernel
theorem dX10_sure_25 : decode cX10_sure 25 = .ok (.iload_n 1, 1) := by decide +kernel
theorem dX10_sure_26 : decode cX10_sure 26 = .ok (.iload_n 2, 1) := by decide +kernel
theorem dX10_sure_27 : decode cX10_sure 27 = .ok (.invokestatic 104, 3) := by decide +kernel
theorem dX10_sure_30 : decode cX10_sure 30 = .ok (.iconst 0, 1) := by decide +kernel
theorem dX10_sure_31 : decode cX10_sure 31 = .ok (.invokevirtual 251, 3) := by decide +kernel
theorem dX10_sure_34 : decode cX10_sure 34 = .ok (.lstore 5, 2) := by decide +kernel
theorem dX10_sure_36 : decode cX10_sure 36 = .ok (.ldc2_w 264, 3) := by decide +kernel
theorem dX10_sure_39 : decode cX10_sure 39 = .ok (.lload 5, 2) := by decide +kernel
theorem dX10_sure_41 : decode cX10_sure 41 = .ok (.lmul, 1) := by decide +kernel
theorem dX10_sure_42 : decode cX10_sure 42 = .ok (.iload_n 3, 1) := by decide +kernel
theorem dX10_sure_43 : decode cX10_sure 43 = .ok (.i2l, 1) := by decide +kernel
theorem dX10_sure_44 : decode cX10_sure 44 = .ok (.ldc2_w 266, 3) := by decide +kernel
theorem dX10_sure_47 : decode cX10_sure 47 = .ok (.lmul, 1) := by decide +kernel
theorem dX10_sure_48 : decode cX10_sure 48 = .ok (.lcmp, 1) := by decide +kernel
theorem dX10_sure_49 : decode cX10_sure 49 = .ok (.ifCond .ge 25, 3) := by decide +kernel
theorem dX10_sure_52 : decode cX10_sure 52 = .ok (.iinc 4 1, 3) := by decide +kernel
theorem dX10_sure_55 : decode cX10_sure 55 = .ok (.lload 5, 2) := by decide +kernel
theorem dX10_sure_57 : decode cX10_sure 57 = .ok (.aload_n 0, 1) := by decide +kernel
theorem dX10_sure_58 : decode cX10_sure 58 = .ok (.iload_n 1, 1) := by decide +kernel
theorem dX10_sure_59 : decode cX10_sure 59 = .ok (.iload_n 2, 1) := by decide +kernel
theorem dX10_sure_60 : decode cX10_sure 60 = .ok (.invokestatic 104, 3) := by decide +kernel
theorem dX10_sure_63 : decode cX10_sure 63 = .ok (.iload 4, 2) := by decide +kernel
theorem dX10_sure_65 : decode cX10_sure 65 = .ok (.invokevirtual 251, 3) := by decide +kernel
theorem dX10_sure_68 : decode cX10_sure 68 = .ok (.ladd, 1) := by decide +kernel
theorem dX10_sure_69 : decode cX10_sure 69 = .ok (.lstore 5, 2) := by decide +kernel
theorem dX10_sure_71 : decode cX10_sure 71 = .ok (.goto (-35), 3) := by decide +kernel
theorem dX10_sure_74 : decode cX10_sure 74 = .ok (.iload 4, 2) := by decide +kernel
theorem dX10_sure_76 : decode cX10_sure 76 = .ok (.ireturn, 1) := by decide +kernel
theorem dX10_gainOf_0 : decode cX10_gainOf 0 = .ok (.aload_n 0, 1) := by decide +kernel
theorem dX10_gainOf_1 : decode cX10_gainOf 1 = .ok (.iload_n 1, 1) := by decide +kernel
theorem dX10_gainOf_2 : decode cX10_gainOf 2 = .ok (.aload_n 0, 1) := by decide +kernel
theorem dX10_gainOf_3 : decode cX10_gainOf 3 = .ok (.getfield 31, 3) := by decide +kernel
theorem dX10_gainOf_6 : decode cX10_gainOf 6 = .ok (.iload_n 1, 1) := by decide +kernel
theorem dX10_gainOf_7 : decode cX10_gainOf 7 = .ok (.iaload, 1) := by decide +kernel
theorem dX10_gainOf_8 : decode cX10_gainOf 8 = .ok (.invokevirtual 257, 3) := by decide +kernel
theorem dX10_gainOf_11 : decode cX10_gainOf 11 = .ok (.aload_n 0, 1) := by decide +kernel
theorem dX10_gainOf_12 : decode cX10_gainOf 12 = .ok (.iload_n 1, 1) := by decide +kernel
theorem dX10_gainOf_13 : decode cX10_gainOf 13 = .ok (.aload_n 0, 1) := by decide +kernel
theorem dX10_gainOf_14 : decode cX10_gainOf 14 = .ok (.getfield 31, 3) := by decide +kernel
theorem dX10_gainOf_17 : decode cX10_gainOf 17 = .ok (.iload_n 1, 1) := by decide +kernel
theorem dX10_gainOf_18 : decode cX10_gainOf 18 = .ok (.iaload, 1) := by decide +kernel
theorem dX10_gainOf_19 : decode cX10_gainOf 19 = .ok (.iconst 1, 1) := by decide +kernel
theorem dX10_gainOf_20 : decode cX10_gainOf 20 = .ok (.iadd, 1) := by decide +kernel
theorem dX10_gainOf_21 : decode cX10_gainOf 21 = .ok (.invokevirtual 257, 3) := by decide +kernel
theorem dX10_gainOf_24 : decode cX10_gainOf 24 = .ok (.lsub, 1) := by decide +kernel
theorem dX10_gainOf_25 : decode cX10_gainOf 25 = .ok (.lreturn, 1) := by decide +kernel
theorem dX10_nextBuy_0 : decode cX10_nextBuy 0 = .ok (.iconst (-1), 1) := by decide +kernel
theorem dX10_nextBuy_1 : decode cX10_nextBuy 1 = .ok (.istore_n 1, 1) := by decide +kernel
theorem dX10_nextBuy_2 : decode cX10_nextBuy 2 = .ok (.iconst 0, 1) := by decide +kernel
theorem dX10_nextBuy_3 : decode cX10_nextBuy 3 = .ok (.istore_n 2, 1) := by decide +kernel
theorem dX10_nextBuy_4 : decode cX10_nextBuy 4 = .ok (.iload_n 2, 1) := by decide +kernel
theorem dX10_nextBuy_5 : decode cX10_nextBuy 5 = .ok (.aload_n 0, 1) := by decide +kernel
theorem dX10_nextBuy_6 : decode cX10_nextBuy 6 = .ok (.getfield 7, 3) := by decide +kernel
theorem dX10_nextBuy_9 : decode cX10_nextBuy 9 = .ok (.iconst 1, 1) := by decide +kernel
theorem dX10_nextBuy_10 : decode cX10_nextBuy 10 = .ok (.iaload, 1) := by decide +kernel
theorem dX10_nextBuy_11 : decode cX10_nextBuy 11 = .ok (.if_icmp .ge 107, 3) := by decide +kernel
theorem dX10_nextBuy_14 : decode cX10_nextBuy 14 = .ok (.iconst 0, 1) := by decide +kernel
theorem dX10_nextBuy_15 : decode cX10_nextBuy 15 = .ok (.istore_n 3, 1) := by decide +kernel
theorem dX10_nextBuy_16 : decode cX10_nextBuy 16 = .ok (.iload_n 3, 1) := by decide +kernel
theorem dX10_nextBuy_17 : decode cX10_nextBuy 17 = .ok (.aload_n 0, 1) := by decide +kernel
theorem dX10_nextBuy_18 : decode cX10_nextBuy 18 = .ok (.getfield 7, 3) := by decide +kernel
theorem dX10_nextBuy_21 : decode cX10_nextBuy 21 = .ok (.iconst 0, 1) := by decide +kernel
theorem dX10_nextBuy_22 : decode cX10_nextBuy 22 = .ok (.iaload, 1) := by decide +kernel
theorem dX10_nextBuy_23 : decode cX10_nextBuy 23 = .ok (.if_icmp .ge 89, 3) := by decide +kernel
theorem dX10_nextBuy_26 : decode cX10_nextBuy 26 = .ok (.iload_n 2, 1) := by decide +kernel
theorem dX10_nextBuy_27 : decode cX10_nextBuy 27 = .ok (.iload_n 3, 1) := by decide +kernel
theorem dX10_nextBuy_28 : decode cX10_nextBuy 28 = .ok (.invokestatic 104, 3) := by decide +kernel
theorem dX10_nextBuy_31 : decode cX10_nextBuy 31 = .ok (.istore 4, 2) := by decide +kernel
theorem dX10_nextBuy_33 : decode cX10_nextBuy 33 = .ok (.aload_n 0, 1) := by decide +kernel
theorem dX10_nextBuy_34 : decode cX10_nextBuy 34 = .ok (.getfield 31, 3) := by decide +kernel
theorem dX10_nextBuy_37 : decode cX10_nextBuy 37 = .ok (.iload 4, 2) := by decide +kernel
theorem dX10_nextBuy_39 : decode cX10_nextBuy 39 = .ok (.iaload, 1) := by decide +kernel
theorem dX10_nextBuy_40 : decode cX10_nextBuy 40 = .ok (.bipush 9, 2) := by decide +kernel
theorem dX10_nextBuy_42 : decode cX10_nextBuy 42 = .ok (.if_icmp .eq 64, 3) := by decide +kernel
theorem dX10_nextBuy_45 : decode cX10_nextBuy 45 = .ok (.aload_n 0, 1) := by decide +kernel
theorem dX10_nextBuy_46 : decode cX10_nextBuy 46 = .ok (.iload 4, 2) := by decide +kernel
theorem dX10_nextBuy_48 : decode cX10_nextBuy 48 = .ok (.invokevirtual 268, 3) := by decide +kernel
theorem dX10_nextBuy_51 : decode cX10_nextBuy 51 = .ok (.lconst 0, 1) := by decide +kernel
theorem dX10_nextBuy_52 : decode cX10_nextBuy 52 = .ok (.lcmp, 1) := by decide +kernel
theorem dX10_nextBuy_53 : decode cX10_nextBuy 53 = .ok (.ifCond .ne 6, 3) := by decide +kernel
theorem dX10_nextBuy_56 : decode cX10_nextBuy 56 = .ok (.goto 50, 3) := by decide +kernel
theorem dX10_nextBuy_59 : decode cX10_nextBuy 59 = .ok (.iload_n 1, 1) := by decide +kernel
theorem dX10_nextBuy_60 : decode cX10_nextBuy 60 = .ok (.iconst (-1), 1) := by decide +kernel
theorem dX10_nextBuy_61 : decode cX10_nextBuy 61 = .ok (.if_icmp .eq 42, 3) := by decide +kernel
theorem dX10_nextBuy_64 : decode cX10_nextBuy 64 = .ok (.aload_n 0, 1) := by decide +kernel
theorem dX10_nextBuy_65 : decode cX10_nextBuy 65 = .ok (.iload 4, 2) := by decide +kernel
theorem dX10_nextBuy_67 : decode cX10_nextBuy 67 = .ok (.invokevirtual 268, 3) := by decide +kernel
theorem dX10_nextBuy_70 : decode cX10_nextBuy 70 = .ok (.aload_n 0, 1) := by decide +kernel
theorem dX10_nextBuy_71 : decode cX10_nextBuy 71 = .ok (.getfield 7, 3) := by decide +kernel
theorem dX10_nextBuy_74 : decode cX10_nextBuy 74 = .ok (.bipush 20, 2) := by decide +kernel
theorem dX10_nextBuy_76 : decode cX10_nextBuy 76 = .ok (.iload_n 1, 1) := by decide +kernel
theorem dX10_nextBuy_77 : decode cX10_nextBuy 77 = .ok (.iconst 3, 1) := by decide +kernel
theorem dX10_nextBuy_78 : decode cX10_nextBuy 78 = .ok (.irem, 1) := by decide +kernel
theorem dX10_nextBuy_79 : decode cX10_nextBuy 79 = .ok (.iadd, 1) := by decide +kernel
theorem dX10_nextBuy_80 : decode cX10_nextBuy 80 = .ok (.iaload, 1) := by decide +kernel
theorem dX10_nextBuy_81 : decode cX10_nextBuy 81 = .ok (.i2l, 1) := by decide +kernel
theorem dX10_nextBuy_82 : decode cX10_nextBuy 82 = .ok (.lmul, 1) := by decide +kernel
theorem dX10_nextBuy_83 : decode cX10_nextBuy 83 = .ok (.aload_n 0, 1) := by decide +kernel
theorem dX10_nextBuy_84 : decode cX10_nextBuy 84 = .ok (.iload_n 1, 1) := by decide +kernel
theorem dX10_nextBuy_85 : decode cX10_nextBuy 85 = .ok (.invokevirtual 268, 3) := by decide +kernel
theorem dX10_nextBuy_88 : decode cX10_nextBuy 88 = .ok (.aload_n 0, 1) := by decide +kernel
theorem dX10_nextBuy_89 : decode cX10_nextBuy 89 = .ok (.getfield 7, 3) := by decide +kernel
theorem dX10_nextBuy_92 : decode cX10_nextBuy 92 = .ok (.bipush 20, 2) := by decide +kernel
theorem dX10_nextBuy_94 : decode cX10_nextBuy 94 = .ok (.iload_n 3, 1) := by decide +kernel
theorem dX10_nextBuy_95 : decode cX10_nextBuy 95 = .ok (.iadd, 1) := by decide +kernel
theorem dX10_nextBuy_96 : decode cX10_nextBuy 96 = .ok (.iaload, 1) := by decide +kernel
theorem dX10_nextBuy_97 : decode cX10_nextBuy 97 = .ok (.i2l, 1) := by decide +kernel
theorem dX10_nextBuy_98 : decode cX10_nextBuy 98 = .ok (.lmul, 1) := by decide +kernel
theorem dX10_nextBuy_99 : decode cX10_nextBuy 99 = .ok (.lcmp, 1) := by decide +kernel
theorem dX10_nextBuy_100 : decode cX10_nextBuy 100 = .ok (.ifCond .le 6, 3) := by decide +kernel
theorem dX10_nextBuy_103 : decode cX10_nextBuy 103 = .ok (.iload 4, 2) := by decide +kernel
theorem dX10_nextBuy_105 : decode cX10_nextBuy 105 = .ok (.istore_n 1, 1) := by decide +kernel
theorem dX10_nextBuy_106 : decode cX10_nextBuy 106 = .ok (.iinc 3 1, 3) := by decide +kernel
theorem dX10_nextBuy_109 : decode cX10_nextBuy 109 = .ok (.goto (-93), 3) := by decide +kernel
theorem dX10_nextBuy_112 : decode cX10_nextBuy 112 = .ok (.iinc 2 1, 3) := by decide +kernel
theorem dX10_nextBuy_115 : decode cX10_nextBuy 115 = .ok (.goto (-111), 3) := by decide +kernel
theorem dX10_nextBuy_118 : decode cX10_nextBuy 118 = .ok (.iload_n 1, 1) := by decide +kernel
theorem dX10_nextBuy_119 : decode cX10_nextBuy 119 = .ok (.ireturn, 1) := by decide +kernel
theorem dX10_layBuys_0 : decode cX10_layBuys 0 = .ok (.iconst 0, 1) := by decide +kernel
theorem dX10_layBuys_1 : decode cX10_layBuys 1 = .ok (.istore_n 1, 1) := by decide +kernel
theorem dX10_layBuys_2 : decode cX10_layBuys 2 = .ok (.iload_n 1, 1) := by decide +kernel
theorem dX10_layBuys_3 : decode cX10_layBuys 3 = .ok (.bipush 9, 2) := by decide +kernel
theorem dX10_layBuys_5 : decode cX10_layBuys 5 = .ok (.if_icmp .ge 16, 3) := by decide +kernel
theorem dX10_layBuys_8 : decode cX10_layBuys 8 = .ok (.aload_n 0, 1) := by decide +kernel
theorem dX10_layBuys_9 : decode cX10_layBuys 9 = .ok (.getfield 31, 3) := by decide +kernel
theorem dX10_layBuys_12 : decode cX10_layBuys 12 = .ok (.iload_n 1, 1) := by decide +kernel
theorem dX10_layBuys_13 : decode cX10_layBuys 13 = .ok (.iconst 0, 1) := by decide +kernel
theorem dX10_layBuys_14 : decode cX10_layBuys 14 = .ok (.iastore, 1) := by decide +kernel
theorem dX10_layBuys_15 : decode cX10_layBuys 15 = .ok (.iinc 1 1, 3) := by decide +kernel
theorem dX10_layBuys_18 : decode cX10_layBuys 18 = .ok (.goto (-16), 3) := by decide +kernel
theorem dX10_layBuys_21 : decode cX10_layBuys 21 = .ok (.aload_n 0, 1) := by decide +kernel
theorem dX10_layBuys_22 : decode cX10_layBuys 22 = .ok (.iconst 0, 1) := by decide +kernel
theorem dX10_layBuys_23 : decode cX10_layBuys 23 = .ok (.putfield 272, 3) := by decide +kernel
theorem dX10_layBuys_26 : decode cX10_layBuys 26 = .ok (.iconst 0, 1) := by decide +kernel
theorem dX10_layBuys_27 : decode cX10_layBuys 27 = .ok (.istore_n 1, 1) := by decide +kernel
theorem dX10_layBuys_28 : decode cX10_layBuys 28 = .ok (.aload_n 0, 1) := by decide +kernel
theorem dX10_layBuys_29 : decode cX10_layBuys 29 = .ok (.invokevirtual 275, 3) := by decide +kernel
theorem dX10_layBuys_32 : decode cX10_layBuys 32 = .ok (.istore_n 2, 1) := by decide +kernel
theorem dX10_layBuys_33 : decode cX10_layBuys 33 = .ok (.iload_n 2, 1) := by decide +kernel
theorem dX10_layBuys_34 : decode cX10_layBuys 34 = .ok (.iconst (-1), 1) := by decide +kernel
theorem dX10_layBuys_35 : decode cX10_layBuys 35 = .ok (.if_icmp .eq 80, 3) := by decide +kernel
theorem dX10_layBuys_38 : decode cX10_layBuys 38 = .ok (.aload_n 0, 1) := by decide +kernel
theorem dX10_layBuys_39 : decode cX10_layBuys 39 = .ok (.getfield 31, 3) := by decide +kernel
theorem dX10_layBuys_42 : decode cX10_layBuys 42 = .ok (.iload_n 2, 1) := by decide +kernel
theorem dX10_layBuys_43 : decode cX10_layBuys 43 = .ok (.dup2, 1) := by decide +kernel
theorem dX10_layBuys_44 : decode cX10_layBuys 44 = .ok (.iaload, 1) := by decide +kernel
theorem dX10_layBuys_45 : decode cX10_layBuys 45 = .ok (.iconst 1, 1) := by decide +kernel
theorem dX10_layBuys_46 : decode cX10_layBuys 46 = .ok (.iadd, 1) := by decide +kernel
theorem dX10_layBuys_47 : decode cX10_layBuys 47 = .ok (.iastore, 1) := by decide +kernel
theorem dX10_layBuys_48 : decode cX10_layBuys 48 = .ok (.iload_n 1, 1) := by decide +kernel
theorem dX10_layBuys_49 : decode cX10_layBuys 49 = .ok (.aload_n 0, 1) := by decide +kernel
theorem dX10_layBuys_50 : decode cX10_layBuys 50 = .ok (.getfield 7, 3) := by decide +kernel
theorem dX10_layBuys_53 : decode cX10_layBuys 53 = .ok (.bipush 20, 2) := by decide +kernel
theorem dX10_layBuys_55 : decode cX10_layBuys 55 = .ok (.iload_n 2, 1) := by decide +kernel
theorem dX10_layBuys_56 : decode cX10_layBuys 56 = .ok (.iconst 3, 1) := by decide +kernel
theorem dX10_layBuys_57 : decode cX10_layBuys 57 = .ok (.irem, 1) := by decide +kernel
theorem dX10_layBuys_58 : decode cX10_layBuys 58 = .ok (.iadd, 1) := by decide +kernel
theorem dX10_layBuys_59 : decode cX10_layBuys 59 = .ok (.iaload, 1) := by decide +kernel
theorem dX10_layBuys_60 : decode cX10_layBuys 60 = .ok (.iadd, 1) := by decide +kernel
theorem dX10_layBuys_61 : decode cX10_layBuys 61 = .ok (.istore_n 1, 1) := by decide +kernel
theorem dX10_layBuys_62 : decode cX10_layBuys 62 = .ok (.aload_n 0, 1) := by decide +kernel
theorem dX10_layBuys_63 : decode cX10_layBuys 63 = .ok (.getfield 22, 3) := by decide +kernel
theorem dX10_layBuys_66 : decode cX10_layBuys 66 = .ok (.aload_n 0, 1) := by decide +kernel
theorem dX10_layBuys_67 : decode cX10_layBuys 67 = .ok (.getfield 272, 3) := by decide +kernel
theorem dX10_layBuys_70 : decode cX10_layBuys 70 = .ok (.iload_n 2, 1) := by decide +kernel
theorem dX10_layBuys_71 : decode cX10_layBuys 71 = .ok (.iastore, 1) := by decide +kernel
theorem dX10_layBuys_72 : decode cX10_layBuys 72 = .ok (.aload_n 0, 1) := by decide +kernel
theorem dX10_layBuys_73 : decode cX10_layBuys 73 = .ok (.getfield 25, 3) := by decide +kernel
theorem dX10_layBuys_76 : decode cX10_layBuys 76 = .ok (.aload_n 0, 1) := by decide +kernel
theorem dX10_layBuys_77 : decode cX10_layBuys 77 = .ok (.getfield 272, 3) := by decide +kernel
theorem dX10_layBuys_80 : decode cX10_layBuys 80 = .ok (.aload_n 0, 1) := by decide +kernel
theorem dX10_layBuys_81 : decode cX10_layBuys 81 = .ok (.getfield 31, 3) := by decide +kernel
theorem dX10_layBuys_84 : decode cX10_layBuys 84 = .ok (.iload_n 2, 1) := by decide +kernel
theorem dX10_layBuys_85 : decode cX10_layBuys 85 = .ok (.iaload, 1) := by decide +kernel
theorem dX10_layBuys_86 : decode cX10_layBuys 86 = .ok (.iastore, 1) := by decide +kernel
theorem dX10_layBuys_87 : decode cX10_layBuys 87 = .ok (.aload_n 0, 1) := by decide +kernel
theorem dX10_layBuys_88 : decode cX10_layBuys 88 = .ok (.getfield 28, 3) := by decide +kernel
theorem dX10_layBuys_91 : decode cX10_layBuys 91 = .ok (.aload_n 0, 1) := by decide +kernel
theorem dX10_layBuys_92 : decode cX10_layBuys 92 = .ok (.getfield 272, 3) := by decide +kernel
theorem dX10_layBuys_95 : decode cX10_layBuys 95 = .ok (.iload_n 1, 1) := by decide +kernel
theorem dX10_layBuys_96 : decode cX10_layBuys 96 = .ok (.iastore, 1) := by decide +kernel
theorem dX10_layBuys_97 : decode cX10_layBuys 97 = .ok (.aload_n 0, 1) := by decide +kernel
theorem dX10_layBuys_98 : decode cX10_layBuys 98 = .ok (.dup, 1) := by decide +kernel
theorem dX10_layBuys_99 : decode cX10_layBuys 99 = .ok (.getfield 272, 3) := by decide +kernel
theorem dX10_layBuys_102 : decode cX10_layBuys 102 = .ok (.iconst 1, 1) := by decide +kernel
theorem dX10_layBuys_103 : decode cX10_layBuys 103 = .ok (.iadd, 1) := by decide +kernel
theorem dX10_layBuys_104 : decode cX10_layBuys 104 = .ok (.putfield 272, 3) := by decide +kernel
theorem dX10_layBuys_107 : decode cX10_layBuys 107 = .ok (.aload_n 0, 1) := by decide +kernel
theorem dX10_layBuys_108 : decode cX10_layBuys 108 = .ok (.invokevirtual 275, 3) := by decide +kernel
theorem dX10_layBuys_111 : decode cX10_layBuys 111 = .ok (.istore_n 2, 1) := by decide +kernel
theorem dX10_layBuys_112 : decode cX10_layBuys 112 = .ok (.goto (-79), 3) := by decide +kernel
theorem dX10_layBuys_115 : decode cX10_layBuys 115 = .ok (.return_, 1) := by decide +kernel
theorem dX10_buys_0 : decode cX10_buys 0 = .ok (.iload_n 1, 1) := by decide +kernel
theorem dX10_buys_1 : decode cX10_buys 1 = .ok (.ifCond .lt 12, 3) := by decide +kernel
theorem dX10_buys_4 : decode cX10_buys 4 = .ok (.iload_n 2, 1) := by decide +kernel
theorem dX10_buys_5 : decode cX10_buys 5 = .ok (.iconst 0, 1) := by decide +kernel
theorem dX10_buys_6 : decode cX10_buys 6 = .ok (.iconst 3, 1) := by decide +kernel
theorem dX10_buys_7 : decode cX10_buys 7 = .ok (.invokestatic 51, 3) := by decide +kernel
theorem dX10_buys_10 : decode cX10_buys 10 = .ok (.ifCond .ne 5, 3) := by decide +kernel
theorem dX10_buys_13 : decode cX10_buys 13 = .ok (.iconst (-1), 1) := by decide +kernel
theorem dX10_buys_14 : decode cX10_buys 14 = .ok (.ireturn, 1) := by decide +kernel
theorem dX10_buys_15 : decode cX10_buys 15 = .ok (.aload_n 0, 1) := by decide +kernel
theorem dX10_buys_16 : decode cX10_buys 16 = .ok (.invokevirtual 278, 3) := by decide +kernel
theorem dX10_buys_19 : decode cX10_buys 19 = .ok (.iload_n 1, 1) := by decide +kernel
theorem dX10_buys_20 : decode cX10_buys 20 = .ok (.aload_n 0, 1) := by decide +kernel
theorem dX10_buys_21 : decode cX10_buys 21 = .ok (.getfield 272, 3) := by decide +kernel
theorem dX10_buys_24 : decode cX10_buys 24 = .ok (.if_icmp .lt 5, 3) := by decide +kernel
theorem dX10_buys_27 : decode cX10_buys 27 = .ok (.iconst (-1), 1) := by decide +kernel
theorem dX10_buys_28 : decode cX10_buys 28 = .ok (.ireturn, 1) := by decide +kernel
theorem dX10_buys_29 : decode cX10_buys 29 = .ok (.iload_n 2, 1) := by decide +kernel
theorem dX10_buys_30 : decode cX10_buys 30 = .ok (.ifCond .ne 14, 3) := by decide +kernel
theorem dX10_buys_33 : decode cX10_buys 33 = .ok (.aload_n 0, 1) := by decide +kernel
theorem dX10_buys_34 : decode cX10_buys 34 = .ok (.getfield 22, 3) := by decide +kernel
theorem dX10_buys_37 : decode cX10_buys 37 = .ok (.iload_n 1, 1) := by decide +kernel
theorem dX10_buys_38 : decode cX10_buys 38 = .ok (.iaload, 1) := by decide +kernel
theorem dX10_buys_39 : decode cX10_buys 39 = .ok (.iconst 3, 1) := by decide +kernel
theorem dX10_buys_40 : decode cX10_buys 40 = .ok (.idiv, 1) := by decide +kernel
theorem dX10_buys_41 : decode cX10_buys 41 = .ok (.goto 39, 3) := by decide +kernel
theorem dX10_buys_44 : decode cX10_buys 44 = .ok (.iload_n 2, 1) := by decide +kernel
theorem dX10_buys_45 : decode cX10_buys 45 = .ok (.iconst 1, 1) := by decide +kernel
theorem dX10_buys_46 : decode cX10_buys 46 = .ok (.if_icmp .ne 14, 3) := by decide +kernel
theorem dX10_buys_49 : decode cX10_buys 49 = .ok (.aload_n 0, 1) := by decide +kernel
theorem dX10_buys_50 : decode cX10_buys 50 = .ok (.getfield 22, 3) := by decide +kernel
theorem dX10_buys_53 : decode cX10_buys 53 = .ok (.iload_n 1, 1) := by decide +kernel
theorem dX10_buys_54 : decode cX10_buys 54 = .ok (.iaload, 1) := by decide +kernel
theorem dX10_buys_55 : decode cX10_buys 55 = .ok (.iconst 3, 1) := by decide +kernel
theorem dX10_buys_56 : decode cX10_buys 56 = .ok (.irem, 1) := by decide +kernel
theorem dX10_buys_57 : decode cX10_buys 57 = .ok (.goto 23, 3) := by decide +kernel
theorem dX10_buys_60 : decode cX10_buys 60 = .ok (.iload_n 2, 1) := by decide +kernel
theorem dX10_buys_61 : decode cX10_buys 61 = .ok (.iconst 2, 1) := by decide +kernel
theorem dX10_buys_62 : decode cX10_buys 62 = .ok (.if_icmp .ne 12, 3) := by decide +kernel
theorem dX10_buys_65 : decode cX10_buys 65 = .ok (.aload_n 0, 1) := by decide +kernel
theorem dX10_buys_66 : decode cX10_buys 66 = .ok (.getfield 25, 3) := by decide +kernel
theorem dX10_buys_69 : decode cX10_buys 69 = .ok (.iload_n 1, 1) := by decide +kernel
theorem dX10_buys_70 : decode cX10_buys 70 = .ok (.iaload, 1) := by decide +kernel
theorem dX10_buys_71 : decode cX10_buys 71 = .ok (.goto 9, 3) := by decide +kernel
theorem dX10_buys_74 : decode cX10_buys 74 = .ok (.aload_n 0, 1) := by decide +kernel
theorem dX10_buys_75 : decode cX10_buys 75 = .ok (.getfield 28, 3) := by decide +kernel
theorem dX10_buys_78 : decode cX10_buys 78 = .ok (.iload_n 1, 1) := by decide +kernel
theorem dX10_buys_79 : decode cX10_buys 79 = .ok (.iaload, 1) := by decide +kernel
theorem dX10_buys_80 : decode cX10_buys 80 = .ok (.ireturn, 1) := by decide +kernel
theorem dX10_layBought_0 : decode cX10_layBought 0 = .ok (.aload_n 0, 1) := by decide +kernel
theorem dX10_layBought_1 : decode cX10_layBought 1 = .ok (.invokevirtual 278, 3) := by decide +kernel
theorem dX10_layBought_4 : decode cX10_layBought 4 = .ok (.iconst 0, 1) := by decide +kernel
theorem dX10_layBought_5 : decode cX10_layBought 5 = .ok (.istore_n 2, 1) := by decide +kernel
theorem dX10_layBought_6 : decode cX10_layBought 6 = .ok (.iload_n 2, 1) := by decide +kernel
theorem dX10_layBought_7 : decode cX10_layBought 7 = .ok (.bipush 9, 2) := by decide +kernel
theorem dX10_layBought_9 : decode cX10_layBought 9 = .ok (.if_icmp .ge 16, 3) := by decide +kernel
theorem dX10_layBought_12 : decode cX10_layBought 12 = .ok (.aload_n 0, 1) := by decide +kernel
theorem dX10_layBought_13 : decode cX10_layBought 13 = .ok (.getfield 31, 3) := by decide +kernel
theorem dX10_layBought_16 : decode cX10_layBought 16 = .ok (.iload_n 2, 1) := by decide +kernel
theorem dX10_layBought_17 : decode cX10_layBought 17 = .ok (.iconst 0, 1) := by decide +kernel
theorem dX10_layBought_18 : decode cX10_layBought 18 = .ok (.iastore, 1) := by decide +kernel
theorem dX10_layBought_19 : decode cX10_layBought 19 = .ok (.iinc 2 1, 3) := by decide +kernel
theorem dX10_layBought_22 : decode cX10_layBought 22 = .ok (.goto (-16), 3) := by decide +kernel
theorem dX10_layBought_25 : decode cX10_layBought 25 = .ok (.iconst 0, 1) := by decide +kernel
theorem dX10_layBought_26 : decode cX10_layBought 26 = .ok (.istore_n 2, 1) := by decide +kernel
theorem dX10_layBought_27 : decode cX10_layBought 27 = .ok (.iload_n 2, 1) := by decide +kernel
theorem dX10_layBought_28 : decode cX10_layBought 28 = .ok (.aload_n 0, 1) := by decide +kernel
theorem dX10_layBought_29 : decode cX10_layBought 29 = .ok (.getfield 272, 3) := by decide +kernel
theorem dX10_layBought_32 : decode cX10_layBought 32 = .ok (.if_icmp .ge 34, 3) := by decide +kernel
theorem dX10_layBought_35 : decode cX10_layBought 35 = .ok (.aload_n 0, 1) := by decide +kernel
theorem dX10_layBought_36 : decode cX10_layBought 36 = .ok (.getfield 28, 3) := by decide +kernel
theorem dX10_layBought_39 : decode cX10_layBought 39 = .ok (.iload_n 2, 1) := by decide +kernel
theorem dX10_layBought_40 : decode cX10_layBought 40 = .ok (.iaload, 1) := by decide +kernel
theorem dX10_layBought_41 : decode cX10_layBought 41 = .ok (.iload_n 1, 1) := by decide +kernel
theorem dX10_layBought_42 : decode cX10_layBought 42 = .ok (.if_icmp .gt 24, 3) := by decide +kernel
theorem dX10_layBought_45 : decode cX10_layBought 45 = .ok (.aload_n 0, 1) := by decide +kernel
theorem dX10_layBought_46 : decode cX10_layBought 46 = .ok (.getfield 31, 3) := by decide +kernel
theorem dX10_layBought_49 : decode cX10_layBought 49 = .ok (.aload_n 0, 1) := by decide +kernel
theorem dX10_layBought_50 : decode cX10_layBought 50 = .ok (.getfield 22, 3) := by decide +kernel
theorem dX10_layBought_53 : decode cX10_layBought 53 = .ok (.iload_n 2, 1) := by decide +kernel
theorem dX10_layBought_54 : decode cX10_layBought 54 = .ok (.iaload, 1) := by decide +kernel
theorem dX10_layBought_55 : decode cX10_layBought 55 = .ok (.dup2, 1) := by decide +kernel
theorem dX10_layBought_56 : decode cX10_layBought 56 = .ok (.iaload, 1) := by decide +kernel
theorem dX10_layBought_57 : decode cX10_layBought 57 = .ok (.iconst 1, 1) := by decide +kernel
theorem dX10_layBought_58 : decode cX10_layBought 58 = .ok (.iadd, 1) := by decide +kernel
theorem dX10_layBought_59 : decode cX10_layBought 59 = .ok (.iastore, 1) := by decide +kernel
theorem dX10_layBought_60 : decode cX10_layBought 60 = .ok (.iinc 2 1, 3) := by decide +kernel
theorem dX10_layBought_63 : decode cX10_layBought 63 = .ok (.goto (-36), 3) := by decide +kernel
theorem dX10_layBought_66 : decode cX10_layBought 66 = .ok (.iload_n 2, 1) := by decide +kernel
theorem dX10_layBought_67 : decode cX10_layBought 67 = .ok (.ireturn, 1) := by decide +kernel
theorem dX10_bought_0 : decode cX10_bought 0 = .ok (.iload_n 1, 1) := by decide +kernel
theorem dX10_bought_1 : decode cX10_bought 1 = .ok (.iconst 0, 1) := by decide +kernel
theorem dX10_bought_2 : decode cX10_bought 2 = .ok (.bipush 99, 2) := by decide +kernel
theorem dX10_bought_4 : decode cX10_bought 4 = .ok (.invokestatic 51, 3) := by decide +kernel
theorem dX10_bought_7 : decode cX10_bought 7 = .ok (.ifCond .eq 12, 3) := by decide +kernel
theorem dX10_bought_10 : decode cX10_bought 10 = .ok (.iload_n 2, 1) := by decide +kernel
theorem dX10_bought_11 : decode cX10_bought 11 = .ok (.iconst 0, 1) := by decide +kernel
theorem dX10_bought_12 : decode cX10_bought 12 = .ok (.iconst 4, 1) := by decide +kernel
theorem dX10_bought_13 : decode cX10_bought 13 = .ok (.invokestatic 51, 3) := by decide +kernel
theorem dX10_bought_16 : decode cX10_bought 16 = .ok (.ifCond .ne 5, 3) := by decide +kernel
theorem dX10_bought_19 : decode cX10_bought 19 = .ok (.iconst (-1), 1) := by decide +kernel
theorem dX10_bought_20 : decode cX10_bought 20 = .ok (.ireturn, 1) := by decide +kernel
theorem dX10_bought_21 : decode cX10_bought 21 = .ok (.aload_n 0, 1) := by decide +kernel
theorem dX10_bought_22 : decode cX10_bought 22 = .ok (.iload_n 1, 1) := by decide +kernel
theorem dX10_bought_23 : decode cX10_bought 23 = .ok (.invokevirtual 281, 3) := by decide +kernel
theorem dX10_bought_26 : decode cX10_bought 26 = .ok (.istore_n 3, 1) := by decide +kernel
theorem dX10_bought_27 : decode cX10_bought 27 = .ok (.iload_n 2, 1) := by decide +kernel
theorem dX10_bought_28 : decode cX10_bought 28 = .ok (.iconst 2, 1) := by decide +kernel
theorem dX10_bought_29 : decode cX10_bought 29 = .ok (.if_icmp .ge 28, 3) := by decide +kernel
theorem dX10_bought_32 : decode cX10_bought 32 = .ok (.iload_n 2, 1) := by decide +kernel
theorem dX10_bought_33 : decode cX10_bought 33 = .ok (.ifCond .ne 7, 3) := by decide +kernel
theorem dX10_bought_36 : decode cX10_bought 36 = .ok (.iload_n 3, 1) := by decide +kernel
theorem dX10_bought_37 : decode cX10_bought 37 = .ok (.goto 19, 3) := by decide +kernel
theorem dX10_bought_40 : decode cX10_bought 40 = .ok (.iload_n 3, 1) := by decide +kernel
theorem dX10_bought_41 : decode cX10_bought 41 = .ok (.ifCond .ne 7, 3) := by decide +kernel
theorem dX10_bought_44 : decode cX10_bought 44 = .ok (.iconst 0, 1) := by decide +kernel
theorem dX10_bought_45 : decode cX10_bought 45 = .ok (.goto 11, 3) := by decide +kernel
theorem dX10_bought_48 : decode cX10_bought 48 = .ok (.aload_n 0, 1) := by decide +kernel
theorem dX10_bought_49 : decode cX10_bought 49 = .ok (.getfield 28, 3) := by decide +kernel
theorem dX10_bought_52 : decode cX10_bought 52 = .ok (.iload_n 3, 1) := by decide +kernel
theorem dX10_bought_53 : decode cX10_bought 53 = .ok (.iconst 1, 1) := by decide +kernel
theorem dX10_bought_54 : decode cX10_bought 54 = .ok (.isub, 1) := by decide +kernel
theorem dX10_bought_55 : decode cX10_bought 55 = .ok (.iaload, 1) := by decide +kernel
theorem dX10_bought_56 : decode cX10_bought 56 = .ok (.ireturn, 1) := by decide +kernel
theorem dX10_bought_57 : decode cX10_bought 57 = .ok (.aload_n 0, 1) := by decide +kernel
theorem dX10_bought_58 : decode cX10_bought 58 = .ok (.getfield 31, 3) := by decide +kernel
theorem dX10_bought_61 : decode cX10_bought 61 = .ok (.iconst 3, 1) := by decide +kernel
theorem dX10_bought_62 : decode cX10_bought 62 = .ok (.iload_n 2, 1) := by decide +kernel
theorem dX10_bought_63 : decode cX10_bought 63 = .ok (.iconst 2, 1) := by decide +kernel
theorem dX10_bought_64 : decode cX10_bought 64 = .ok (.isub, 1) := by decide +kernel
theorem dX10_bought_65 : decode cX10_bought 65 = .ok (.imul, 1) := by decide +kernel
theorem dX10_bought_66 : decode cX10_bought 66 = .ok (.iaload, 1) := by decide +kernel
theorem dX10_bought_67 : decode cX10_bought 67 = .ok (.aload_n 0, 1) := by decide +kernel
theorem dX10_bought_68 : decode cX10_bought 68 = .ok (.getfield 31, 3) := by decide +kernel
theorem dX10_bought_71 : decode cX10_bought 71 = .ok (.iconst 3, 1) := by decide +kernel
theorem dX10_bought_72 : decode cX10_bought 72 = .ok (.iload_n 2, 1) := by decide +kernel
theorem dX10_bought_73 : decode cX10_bought 73 = .ok (.iconst 2, 1) := by decide +kernel
theorem dX10_bought_74 : decode cX10_bought 74 = .ok (.isub, 1) := by decide +kernel
theorem dX10_bought_75 : decode cX10_bought 75 = .ok (.imul, 1) := by decide +kernel
theorem dX10_bought_76 : decode cX10_bought 76 = .ok (.iconst 1, 1) := by decide +kernel
theorem dX10_bought_77 : decode cX10_bought 77 = .ok (.iadd, 1) := by decide +kernel
theorem dX10_bought_78 : decode cX10_bought 78 = .ok (.iaload, 1) := by decide +kernel
theorem dX10_bought_79 : decode cX10_bought 79 = .ok (.iadd, 1) := by decide +kernel
theorem dX10_bought_80 : decode cX10_bought 80 = .ok (.aload_n 0, 1) := by decide +kernel
theorem dX10_bought_81 : decode cX10_bought 81 = .ok (.getfield 31, 3) := by decide +kernel
theorem dX10_bought_84 : decode cX10_bought 84 = .ok (.iconst 3, 1) := by decide +kernel
theorem dX10_bought_85 : decode cX10_bought 85 = .ok (.iload_n 2, 1) := by decide +kernel
theorem dX10_bought_86 : decode cX10_bought 86 = .ok (.iconst 2, 1) := by decide +kernel
theorem dX10_bought_87 : decode cX10_bought 87 = .ok (.isub, 1) := by decide +kernel
theorem dX10_bought_88 : decode cX10_bought 88 = .ok (.imul, 1) := by decide +kernel
theorem dX10_bought_89 : decode cX10_bought 89 = .ok (.iconst 2, 1) := by decide +kernel
theorem dX10_bought_90 : decode cX10_bought 90 = .ok (.iadd, 1) := by decide +kernel
theorem dX10_bought_91 : decode cX10_bought 91 = .ok (.iaload, 1) := by decide +kernel
theorem dX10_bought_92 : decode cX10_bought 92 = .ok (.iadd, 1) := by decide +kernel
theorem dX10_bought_93 : decode cX10_bought 93 = .ok (.ireturn, 1) := by decide +kernel
theorem dX10_layBest_0 : decode cX10_layBest 0 = .ok (.aload_n 0, 1) := by decide +kernel
theorem dX10_layBest_1 : decode cX10_layBest 1 = .ok (.getfield 7, 3) := by decide +kernel
theorem dX10_layBest_4 : decode cX10_layBest 4 = .ok (.iconst 1, 1) := by decide +kernel
theorem dX10_layBest_5 : decode cX10_layBest 5 = .ok (.iaload, 1) := by decide +kernel
theorem dX10_layBest_6 : decode cX10_layBest 6 = .ok (.aload_n 0, 1) := by decide +kernel
theorem dX10_layBest_7 : decode cX10_layBest 7 = .ok (.getfield 7, 3) := by decide +kernel
theorem dX10_layBest_10 : decode cX10_layBest 10 = .ok (.iconst 0, 1) := by decide +kernel
theorem dX10_layBest_11 : decode cX10_layBest 11 = .ok (.iaload, 1) := by decide +kernel
theorem dX10_layBest_12 : decode cX10_layBest 12 = .ok (.imul, 1) := by decide +kernel
theorem dX10_layBest_13 : decode cX10_layBest 13 = .ok (.istore_n 1, 1) := by decide +kernel
theorem dX10_layBest_14 : decode cX10_layBest 14 = .ok (.iconst 0, 1) := by decide +kernel
theorem dX10_layBest_15 : decode cX10_layBest 15 = .ok (.istore_n 2, 1) := by decide +kernel
theorem dX10_layBest_16 : decode cX10_layBest 16 = .ok (.iload_n 2, 1) := by decide +kernel
theorem dX10_layBest_17 : decode cX10_layBest 17 = .ok (.bipush 100, 2) := by decide +kernel
theorem dX10_layBest_19 : decode cX10_layBest 19 = .ok (.if_icmp .ge 33, 3) := by decide +kernel
theorem dX10_layBest_22 : decode cX10_layBest 22 = .ok (.aload_n 0, 1) := by decide +kernel
theorem dX10_layBest_23 : decode cX10_layBest 23 = .ok (.getfield 34, 3) := by decide +kernel
theorem dX10_layBest_26 : decode cX10_layBest 26 = .ok (.bipush 100, 2) := by decide +kernel
theorem dX10_layBest_28 : decode cX10_layBest 28 = .ok (.iload_n 1, 1) := by decide +kernel
theorem dX10_layBest_29 : decode cX10_layBest 29 = .ok (.imul, 1) := by decide +kernel
theorem dX10_layBest_30 : decode cX10_layBest 30 = .ok (.iload_n 2, 1) := by decide +kernel
theorem dX10_layBest_31 : decode cX10_layBest 31 = .ok (.iadd, 1) := by decide +kernel
theorem dX10_layBest_32 : decode cX10_layBest 32 = .ok (.lconst 0, 1) := by decide +kernel
theorem dX10_layBest_33 : decode cX10_layBest 33 = .ok (.lastore, 1) := by decide +kernel
theorem dX10_layBest_34 : decode cX10_layBest 34 = .ok (.aload_n 0, 1) := by decide +kernel
theorem dX10_layBest_35 : decode cX10_layBest 35 = .ok (.getfield 38, 3) := by decide +kernel
theorem dX10_layBest_38 : decode cX10_layBest 38 = .ok (.bipush 100, 2) := by decide +kernel
theorem dX10_layBest_40 : decode cX10_layBest 40 = .ok (.iload_n 1, 1) := by decide +kernel
theorem dX10_layBest_41 : decode cX10_layBest 41 = .ok (.imul, 1) := by decide +kernel
theorem dX10_layBest_42 : decode cX10_layBest 42 = .ok (.iload_n 2, 1) := by decide +kernel
theorem dX10_layBest_43 : decode cX10_layBest 43 = .ok (.iadd, 1) := by decide +kernel
theorem dX10_layBest_44 : decode cX10_layBest 44 = .ok (.iconst 0, 1) := by decide +kernel
theorem dX10_layBest_45 : decode cX10_layBest 45 = .ok (.iastore, 1) := by decide +kernel
theorem dX10_layBest_46 : decode cX10_layBest 46 = .ok (.iinc 2 1, 3) := by decide +kernel
theorem dX10_layBest_49 : decode cX10_layBest 49 = .ok (.goto (-33), 3) := by decide +kernel
theorem dX10_layBest_52 : decode cX10_layBest 52 = .ok (.iload_n 1, 1) := by decide +kernel
theorem dX10_layBest_53 : decode cX10_layBest 53 = .ok (.iconst 1, 1) := by decide +kernel
theorem dX10_layBest_54 : decode cX10_layBest 54 = .ok (.isub, 1) := by decide +kernel
theorem dX10_layBest_55 : decode cX10_layBest 55 = .ok (.istore_n 2, 1) := by decide +kernel
theorem dX10_layBest_56 : decode cX10_layBest 56 = .ok (.iload_n 2, 1) := by decide +kernel
theorem dX10_layBest_57 : decode cX10_layBest 57 = .ok (.ifCond .lt 283, 3) := by decide +kernel
theorem dX10_layBest_60 : decode cX10_layBest 60 = .ok (.iload_n 2, 1) := by decide +kernel
theorem dX10_layBest_61 : decode cX10_layBest 61 = .ok (.aload_n 0, 1) := by decide +kernel
theorem dX10_layBest_62 : decode cX10_layBest 62 = .ok (.getfield 7, 3) := by decide +kernel
theorem dX10_layBest_65 : decode cX10_layBest 65 = .ok (.iconst 0, 1) := by decide +kernel
theorem dX10_layBest_66 : decode cX10_layBest 66 = .ok (.iaload, 1) := by decide +kernel
theorem dX10_layBest_67 : decode cX10_layBest 67 = .ok (.idiv, 1) := by decide +kernel
theorem dX10_layBest_68 : decode cX10_layBest 68 = .ok (.iload_n 2, 1) := by decide +kernel
theorem dX10_layBest_69 : decode cX10_layBest 69 = .ok (.aload_n 0, 1) := by decide +kernel
theorem dX10_layBest_70 : decode cX10_layBest 70 = .ok (.getfield 7, 3) := by decide +kernel
theorem dX10_layBest_73 : decode cX10_layBest 73 = .ok (.iconst 0, 1) := by decide +kernel
theorem dX10_layBest_74 : decode cX10_layBest 74 = .ok (.iaload, 1) := by decide +kernel
theorem dX10_layBest_75 : decode cX10_layBest 75 = .ok (.irem, 1) := by decide +kernel
theorem dX10_layBest_76 : decode cX10_layBest 76 = .ok (.invokestatic 104, 3) := by decide +kernel
theorem dX10_layBest_79 : decode cX10_layBest 79 = .ok (.istore_n 3, 1) := by decide +kernel
theorem dX10_layBest_80 : decode cX10_layBest 80 = .ok (.aload_n 0, 1) := by decide +kernel
theorem dX10_layBest_81 : decode cX10_layBest 81 = .ok (.getfield 7, 3) := by decide +kernel
theorem dX10_layBest_84 : decode cX10_layBest 84 = .ok (.bipush 20, 2) := by decide +kernel
theorem dX10_layBest_86 : decode cX10_layBest 86 = .ok (.iload_n 2, 1) := by decide +kernel
theorem dX10_layBest_87 : decode cX10_layBest 87 = .ok (.aload_n 0, 1) := by decide +kernel
theorem dX10_layBest_88 : decode cX10_layBest 88 = .ok (.getfield 7, 3) := by decide +kernel
theorem dX10_layBest_91 : decode cX10_layBest 91 = .ok (.iconst 0, 1) := by decide +kernel
theorem dX10_layBest_92 : decode cX10_layBest 92 = .ok (.iaload, 1) := by decide +kernel
theorem dX10_layBest_93 : decode cX10_layBest 93 = .ok (.irem, 1) := by decide +kernel
theorem dX10_layBest_94 : decode cX10_layBest 94 = .ok (.iadd, 1) := by decide +kernel
theorem dX10_layBest_95 : decode cX10_layBest 95 = .ok (.iaload, 1) := by decide +kernel
theorem dX10_layBest_96 : decode cX10_layBest 96 = .ok (.istore 4, 2) := by decide +kernel
theorem dX10_layBest_98 : decode cX10_layBest 98 = .ok (.iconst 0, 1) := by decide +kernel
theorem dX10_layBest_99 : decode cX10_layBest 99 = .ok (.istore 5, 2) := by decide +kernel
theorem dX10_layBest_101 : decode cX10_layBest 101 = .ok (.iload 5, 2) := by decide +kernel
theorem dX10_layBest_103 : decode cX10_layBest 103 = .ok (.bipush 100, 2) := by decide +kernel
theorem dX10_layBest_105 : decode cX10_layBest 105 = .ok (.if_icmp .ge 229, 3) := by decide +kernel
theorem dX10_layBest_108 : decode cX10_layBest 108 = .ok (.aload_n 0, 1) := by decide +kernel
theorem dX10_layBest_109 : decode cX10_layBest 109 = .ok (.getfield 41, 3) := by decide +kernel
theorem dX10_layBest_112 : decode cX10_layBest 112 = .ok (.bipush 100, 2) := by decide +kernel
theorem dX10_layBest_114 : decode cX10_layBest 114 = .ok (.iload_n 2, 1) := by decide +kernel
theorem dX10_layBest_115 : decode cX10_layBest 115 = .ok (.imul, 1) := by decide +kernel
theorem dX10_layBest_116 : decode cX10_layBest 116 = .ok (.iload 5, 2) := by decide +kernel
theorem dX10_layBest_118 : decode cX10_layBest 118 = .ok (.iadd, 1) := by decide +kernel
theorem dX10_layBest_119 : decode cX10_layBest 119 = .ok (.iconst (-1), 1) := by decide +kernel
theorem dX10_layBest_120 : decode cX10_layBest 120 = .ok (.iastore, 1) := by decide +kernel
theorem dX10_layBest_121 : decode cX10_layBest 121 = .ok (.iconst 0, 1) := by decide +kernel
theorem dX10_layBest_122 : decode cX10_layBest 122 = .ok (.istore 6, 2) := by decide +kernel
theorem dX10_layBest_124 : decode cX10_layBest 124 = .ok (.iload 6, 2) := by decide +kernel
theorem dX10_layBest_126 : decode cX10_layBest 126 = .ok (.bipush 10, 2) := by decide +kernel
theorem dX10_layBest_128 : decode cX10_layBest 128 = .ok (.if_icmp .ge 200, 3) := by decide +kernel
theorem dX10_layBest_131 : decode cX10_layBest 131 = .ok (.iload 6, 2) := by decide +kernel
theorem dX10_layBest_133 : decode cX10_layBest 133 = .ok (.iload 4, 2) := by decide +kernel
theorem dX10_layBest_135 : decode cX10_layBest 135 = .ok (.imul, 1) := by decide +kernel
theorem dX10_layBest_136 : decode cX10_layBest 136 = .ok (.iload 5, 2) := by decide +kernel
theorem dX10_layBest_138 : decode cX10_layBest 138 = .ok (.if_icmp .gt 190, 3) := by decide +kernel
theorem dX10_layBest_141 : decode cX10_layBest 141 = .ok (.aload_n 0, 1) := by decide +kernel
theorem dX10_layBest_142 : decode cX10_layBest 142 = .ok (.iload_n 3, 1) := by decide +kernel
theorem dX10_layBest_143 : decode cX10_layBest 143 = .ok (.iload 6, 2) := by decide +kernel
theorem dX10_layBest_145 : decode cX10_layBest 145 = .ok (.invokevirtual 257, 3) := by decide +kernel
theorem dX10_layBest_148 : decode cX10_layBest 148 = .ok (.aload_n 0, 1) := by decide +kernel
theorem dX10_layBest_149 : decode cX10_layBest 149 = .ok (.getfield 34, 3) := by decide +kernel
theorem dX10_layBest_152 : decode cX10_layBest 152 = .ok (.bipush 100, 2) := by decide +kernel
theorem dX10_layBest_154 : decode cX10_layBest 154 = .ok (.iload_n 2, 1) := by decide +kernel
theorem dX10_layBest_155 : decode cX10_layBest 155 = .ok (.iconst 1, 1) := by decide +kernel
theorem dX10_layBest_156 : decode cX10_layBest 156 = .ok (.iadd, 1) := by decide +kernel
theorem dX10_layBest_157 : decode cX10_layBest 157 = .ok (.imul, 1) := by decide +kernel
theorem dX10_layBest_158 : decode cX10_layBest 158 = .ok (.iload 5, 2) := by decide +kernel
theorem dX10_layBest_160 : decode cX10_layBest 160 = .ok (.iadd, 1) := by decide +kernel
theorem dX10_layBest_161 : decode cX10_layBest 161 = .ok (.iload 6, 2) := by decide +kernel
theorem dX10_layBest_163 : decode cX10_layBest 163 = .ok (.iload 4, 2) := by decide +kernel
theorem dX10_layBest_165 : decode cX10_layBest 165 = .ok (.imul, 1) := by decide +kernel
theorem dX10_layBest_166 : decode cX10_layBest 166 = .ok (.isub, 1) := by decide +kernel
theorem dX10_layBest_167 : decode cX10_layBest 167 = .ok (.laload, 1) := by decide +kernel
theorem dX10_layBest_168 : decode cX10_layBest 168 = .ok (.ladd, 1) := by decide +kernel
theorem dX10_layBest_169 : decode cX10_layBest 169 = .ok (.lstore 7, 2) := by decide +kernel
theorem dX10_layBest_171 : decode cX10_layBest 171 = .ok (.iload 6, 2) := by decide +kernel
theorem dX10_layBest_173 : decode cX10_layBest 173 = .ok (.iload 4, 2) := by decide +kernel
theorem dX10_layBest_175 : decode cX10_layBest 175 = .ok (.imul, 1) := by decide +kernel
theorem dX10_layBest_176 : decode cX10_layBest 176 = .ok (.aload_n 0, 1) := by decide +kernel
theorem dX10_layBest_177 : decode cX10_layBest 177 = .ok (.getfield 38, 3) := by decide +kernel
theorem dX10_layBest_180 : decode cX10_layBest 180 = .ok (.bipush 100, 2) := by decide +kernel
theorem dX10_layBest_182 : decode cX10_layBest 182 = .ok (.iload_n 2, 1) := by decide +kernel
theorem dX10_layBest_183 : decode cX10_layBest 183 = .ok (.iconst 1, 1) := by decide +kernel
theorem dX10_layBest_184 : decode cX10_layBest 184 = .ok (.iadd, 1) := by decide +kernel
theorem dX10_layBest_185 : decode cX10_layBest 185 = .ok (.imul, 1) := by decide +kernel
theorem dX10_layBest_186 : decode cX10_layBest 186 = .ok (.iload 5, 2) := by decide +kernel
theorem dX10_layBest_188 : decode cX10_layBest 188 = .ok (.iadd, 1) := by decide +kernel
theorem dX10_layBest_189 : decode cX10_layBest 189 = .ok (.iload 6, 2) := by decide +kernel
theorem dX10_layBest_191 : decode cX10_layBest 191 = .ok (.iload 4, 2) := by decide +kernel
theorem dX10_layBest_193 : decode cX10_layBest 193 = .ok (.imul, 1) := by decide +kernel
theorem dX10_layBest_194 : decode cX10_layBest 194 = .ok (.isub, 1) := by decide +kernel
theorem dX10_layBest_195 : decode cX10_layBest 195 = .ok (.iaload, 1) := by decide +kernel
theorem dX10_layBest_196 : decode cX10_layBest 196 = .ok (.iadd, 1) := by decide +kernel
theorem dX10_layBest_197 : decode cX10_layBest 197 = .ok (.istore 9, 2) := by decide +kernel
theorem dX10_layBest_199 : decode cX10_layBest 199 = .ok (.aload_n 0, 1) := by decide +kernel
theorem dX10_layBest_200 : decode cX10_layBest 200 = .ok (.getfield 41, 3) := by decide +kernel
theorem dX10_layBest_203 : decode cX10_layBest 203 = .ok (.bipush 100, 2) := by decide +kernel
theorem dX10_layBest_205 : decode cX10_layBest 205 = .ok (.iload_n 2, 1) := by decide +kernel
theorem dX10_layBest_206 : decode cX10_layBest 206 = .ok (.imul, 1) := by decide +kernel
theorem dX10_layBest_207 : decode cX10_layBest 207 = .ok (.iload 5, 2) := by decide +kernel
theorem dX10_layBest_209 : decode cX10_layBest 209 = .ok (.iadd, 1) := by decide +kernel
theorem dX10_layBest_210 : decode cX10_layBest 210 = .ok (.iaload, 1) := by decide +kernel
theorem dX10_layBest_211 : decode cX10_layBest 211 = .ok (.iconst (-1), 1) := by decide +kernel
theorem dX10_layBest_212 : decode cX10_layBest 212 = .ok (.if_icmp .eq 56, 3) := by decide +kernel
theorem dX10_layBest_215 : decode cX10_layBest 215 = .ok (.lload 7, 2) := by decide +kernel
theorem dX10_layBest_217 : decode cX10_layBest 217 = .ok (.aload_n 0, 1) := by decide +kernel
theorem dX10_layBest_218 : decode cX10_layBest 218 = .ok (.getfield 34, 3) := by decide +kernel
theorem dX10_layBest_221 : decode cX10_layBest 221 = .ok (.bipush 100, 2) := by decide +kernel
theorem dX10_layBest_223 : decode cX10_layBest 223 = .ok (.iload_n 2, 1) := by decide +kernel
theorem dX10_layBest_224 : decode cX10_layBest 224 = .ok (.imul, 1) := by decide +kernel
theorem dX10_layBest_225 : decode cX10_layBest 225 = .ok (.iload 5, 2) := by decide +kernel
theorem dX10_layBest_227 : decode cX10_layBest 227 = .ok (.iadd, 1) := by decide +kernel
theorem dX10_layBest_228 : decode cX10_layBest 228 = .ok (.laload, 1) := by decide +kernel
theorem dX10_layBest_229 : decode cX10_layBest 229 = .ok (.lcmp, 1) := by decide +kernel
theorem dX10_layBest_230 : decode cX10_layBest 230 = .ok (.ifCond .lt 38, 3) := by decide +kernel
theorem dX10_layBest_233 : decode cX10_layBest 233 = .ok (.lload 7, 2) := by decide +kernel
theorem dX10_layBest_235 : decode cX10_layBest 235 = .ok (.aload_n 0, 1) := by decide +kernel
theorem dX10_layBest_236 : decode cX10_layBest 236 = .ok (.getfield 34, 3) := by decide +kernel
theorem dX10_layBest_239 : decode cX10_layBest 239 = .ok (.bipush 100, 2) := by decide +kernel
theorem dX10_layBest_241 : decode cX10_layBest 241 = .ok (.iload_n 2, 1) := by decide +kernel
theorem dX10_layBest_242 : decode cX10_layBest 242 = .ok (.imul, 1) := by decide +kernel
theorem dX10_layBest_243 : decode cX10_layBest 243 = .ok (.iload 5, 2) := by decide +kernel
theorem dX10_layBest_245 : decode cX10_layBest 245 = .ok (.iadd, 1) := by decide +kernel
theorem dX10_layBest_246 : decode cX10_layBest 246 = .ok (.laload, 1) := by decide +kernel
theorem dX10_layBest_247 : decode cX10_layBest 247 = .ok (.lcmp, 1) := by decide +kernel
theorem dX10_layBest_248 : decode cX10_layBest 248 = .ok (.ifCond .ne 24, 3) := by decide +kernel
theorem dX10_layBest_251 : decode cX10_layBest 251 = .ok (.iload 9, 2) := by decide +kernel
theorem dX10_layBest_253 : decode cX10_layBest 253 = .ok (.aload_n 0, 1) := by decide +kernel
theorem dX10_layBest_254 : decode cX10_layBest 254 = .ok (.getfield 38, 3) := by decide +kernel
theorem dX10_layBest_257 : decode cX10_layBest 257 = .ok (.bipush 100, 2) := by decide +kernel
theorem dX10_layBest_259 : decode cX10_layBest 259 = .ok (.iload_n 2, 1) := by decide +kernel
theorem dX10_layBest_260 : decode cX10_layBest 260 = .ok (.imul, 1) := by decide +kernel
theorem dX10_layBest_261 : decode cX10_layBest 261 = .ok (.iload 5, 2) := by decide +kernel
theorem dX10_layBest_263 : decode cX10_layBest 263 = .ok (.iadd, 1) := by decide +kernel
theorem dX10_layBest_264 : decode cX10_layBest 264 = .ok (.iaload, 1) := by decide +kernel
theorem dX10_layBest_265 : decode cX10_layBest 265 = .ok (.if_icmp .ge 7, 3) := by decide +kernel
theorem dX10_layBest_268 : decode cX10_layBest 268 = .ok (.iconst 1, 1) := by decide +kernel
theorem dX10_layBest_269 : decode cX10_layBest 269 = .ok (.goto 4, 3) := by decide +kernel
theorem dX10_layBest_272 : decode cX10_layBest 272 = .ok (.iconst 0, 1) := by decide +kernel
theorem dX10_layBest_273 : decode cX10_layBest 273 = .ok (.istore 10, 2) := by decide +kernel
theorem dX10_layBest_275 : decode cX10_layBest 275 = .ok (.iload 10, 2) := by decide +kernel
theorem dX10_layBest_277 : decode cX10_layBest 277 = .ok (.ifCond .eq 45, 3) := by decide +kernel
theorem dX10_layBest_280 : decode cX10_layBest 280 = .ok (.aload_n 0, 1) := by decide +kernel
theorem dX10_layBest_281 : decode cX10_layBest 281 = .ok (.getfield 34, 3) := by decide +kernel
theorem dX10_layBest_284 : decode cX10_layBest 284 = .ok (.bipush 100, 2) := by decide +kernel
theorem dX10_layBest_286 : decode cX10_layBest 286 = .ok (.iload_n 2, 1) := by decide +kernel
theorem dX10_layBest_287 : decode cX10_layBest 287 = .ok (.imul, 1) := by decide +kernel
theorem dX10_layBest_288 : decode cX10_layBest 288 = .ok (.iload 5, 2) := by decide +kernel
theorem dX10_layBest_290 : decode cX10_layBest 290 = .ok (.iadd, 1) := by decide +kernel
theorem dX10_layBest_291 : decode cX10_layBest 291 = .ok (.lload 7, 2) := by decide +kernel
theorem dX10_layBest_293 : decode cX10_layBest 293 = .ok (.lastore, 1) := by decide +kernel
theorem dX10_layBest_294 : decode cX10_layBest 294 = .ok (.aload_n 0, 1) := by decide +kernel
theorem dX10_layBest_295 : decode cX10_layBest 295 = .ok (.getfield 38, 3) := by decide +kernel
theorem dX10_layBest_298 : decode cX10_layBest 298 = .ok (.bipush 100, 2) := by decide +kernel
theorem dX10_layBest_300 : decode cX10_layBest 300 = .ok (.iload_n 2, 1) := by decide +kernel
theorem dX10_layBest_301 : decode cX10_layBest 301 = .ok (.imul, 1) := by decide +kernel
theorem dX10_layBest_302 : decode cX10_layBest 302 = .ok (.iload 5, 2) := by decide +kernel
theorem dX10_layBest_304 : decode cX10_layBest 304 = .ok (.iadd, 1) := by decide +kernel
theorem dX10_layBest_305 : decode cX10_layBest 305 = .ok (.iload 9, 2) := by decide +kernel
theorem dX10_layBest_307 : decode cX10_layBest 307 = .ok (.iastore, 1) := by decide +kernel
theorem dX10_layBest_308 : decode cX10_layBest 308 = .ok (.aload_n 0, 1) := by decide +kernel
theorem dX10_layBest_309 : decode cX10_layBest 309 = .ok (.getfield 41, 3) := by decide +kernel
theorem dX10_layBest_312 : decode cX10_layBest 312 = .ok (.bipush 100, 2) := by decide +kernel
theorem dX10_layBest_314 : decode cX10_layBest 314 = .ok (.iload_n 2, 1) := by decide +kernel
theorem dX10_layBest_315 : decode cX10_layBest 315 = .ok (.imul, 1) := by decide +kernel
theorem dX10_layBest_316 : decode cX10_layBest 316 = .ok (.iload 5, 2) := by decide +kernel
theorem dX10_layBest_318 : decode cX10_layBest 318 = .ok (.iadd, 1) := by decide +kernel
theorem dX10_layBest_319 : decode cX10_layBest 319 = .ok (.iload 6, 2) := by decide +kernel
theorem dX10_layBest_321 : decode cX10_layBest 321 = .ok (.iastore, 1) := by decide +kernel
theorem dX10_layBest_322 : decode cX10_layBest 322 = .ok (.iinc 6 1, 3) := by decide +kernel
theorem dX10_layBest_325 : decode cX10_layBest 325 = .ok (.goto (-201), 3) := by decide +kernel
theorem dX10_layBest_328 : decode cX10_layBest 328 = .ok (.iinc 5 1, 3) := by decide +kernel
theorem dX10_layBest_331 : decode cX10_layBest 331 = .ok (.goto (-230), 3) := by decide +kernel
theorem dX10_layBest_334 : decode cX10_layBest 334 = .ok (.iinc 2 (-1), 3) := by decide +kernel
theorem dX10_layBest_337 : decode cX10_layBest 337 = .ok (.goto (-281), 3) := by decide +kernel
theorem dX10_layBest_340 : decode cX10_layBest 340 = .ok (.return_, 1) := by decide +kernel
theorem dX10_lacksBy_0 : decode cX10_lacksBy 0 = .ok (.iload_n 1, 1) := by decide +kernel
theorem dX10_lacksBy_1 : decode cX10_lacksBy 1 = .ok (.iconst 0, 1) := by decide +kernel
theorem dX10_lacksBy_2 : decode cX10_lacksBy 2 = .ok (.bipush 99, 2) := by decide +kernel
theorem dX10_lacksBy_4 : decode cX10_lacksBy 4 = .ok (.invokestatic 51, 3) := by decide +kernel
theorem dX10_lacksBy_7 : decode cX10_lacksBy 7 = .ok (.ifCond .ne 7, 3) := by decide +kernel
theorem dX10_lacksBy_10 : decode cX10_lacksBy 10 = .ok (.ldc2_w 255, 3) := by decide +kernel
theorem dX10_lacksBy_13 : decode cX10_lacksBy 13 = .ok (.lreturn, 1) := by decide +kernel
theorem dX10_lacksBy_14 : decode cX10_lacksBy 14 = .ok (.iload_n 2, 1) := by decide +kernel
theorem dX10_lacksBy_15 : decode cX10_lacksBy 15 = .ok (.ifCond .eq 14, 3) := by decide +kernel
theorem dX10_lacksBy_18 : decode cX10_lacksBy 18 = .ok (.aload_n 0, 1) := by decide +kernel
theorem dX10_lacksBy_19 : decode cX10_lacksBy 19 = .ok (.invokevirtual 284, 3) := by decide +kernel
theorem dX10_lacksBy_22 : decode cX10_lacksBy 22 = .ok (.aload_n 0, 1) := by decide +kernel
theorem dX10_lacksBy_23 : decode cX10_lacksBy 23 = .ok (.getfield 34, 3) := by decide +kernel
theorem dX10_lacksBy_26 : decode cX10_lacksBy 26 = .ok (.iload_n 1, 1) := by decide +kernel
theorem dX10_lacksBy_27 : decode cX10_lacksBy 27 = .ok (.laload, 1) := by decide +kernel
theorem dX10_lacksBy_28 : decode cX10_lacksBy 28 = .ok (.lreturn, 1) := by decide +kernel
theorem dX10_lacksBy_29 : decode cX10_lacksBy 29 = .ok (.aload_n 0, 1) := by decide +kernel
theorem dX10_lacksBy_30 : decode cX10_lacksBy 30 = .ok (.iload_n 1, 1) := by decide +kernel
theorem dX10_lacksBy_31 : decode cX10_lacksBy 31 = .ok (.invokevirtual 281, 3) := by decide +kernel
theorem dX10_lacksBy_34 : decode cX10_lacksBy 34 = .ok (.istore_n 3, 1) := by decide +kernel
theorem dX10_lacksBy_35 : decode cX10_lacksBy 35 = .ok (.aload_n 0, 1) := by decide +kernel
theorem dX10_lacksBy_36 : decode cX10_lacksBy 36 = .ok (.aload_n 0, 1) := by decide +kernel
theorem dX10_lacksBy_37 : decode cX10_lacksBy 37 = .ok (.getfield 31, 3) := by decide +kernel
theorem dX10_lacksBy_40 : decode cX10_lacksBy 40 = .ok (.invokevirtual 260, 3) := by decide +kernel
theorem dX10_lacksBy_43 : decode cX10_lacksBy 43 = .ok (.lreturn, 1) := by decide +kernel
theorem dX10_best_0 : decode cX10_best 0 = .ok (.iload_n 1, 1) := by decide +kernel
theorem dX10_best_1 : decode cX10_best 1 = .ok (.iconst 0, 1) := by decide +kernel
theorem dX10_best_2 : decode cX10_best 2 = .ok (.bipush 99, 2) := by decide +kernel
theorem dX10_best_4 : decode cX10_best 4 = .ok (.invokestatic 51, 3) := by decide +kernel
theorem dX10_best_7 : decode cX10_best 7 = .ok (.ifCond .eq 12, 3) := by decide +kernel
theorem dX10_best_10 : decode cX10_best 10 = .ok (.aload_n 0, 1) := by decide +kernel
theorem dX10_best_11 : decode cX10_best 11 = .ok (.iload_n 2, 1) := by decide +kernel
theorem dX10_best_12 : decode cX10_best 12 = .ok (.iload_n 3, 1) := by decide +kernel
theorem dX10_best_13 : decode cX10_best 13 = .ok (.invokevirtual 211, 3) := by decide +kernel
theorem dX10_best_16 : decode cX10_best 16 = .ok (.ifCond .ne 5, 3) := by decide +kernel
theorem dX10_best_19 : decode cX10_best 19 = .ok (.iconst (-1), 1) := by decide +kernel
theorem dX10_best_20 : decode cX10_best 20 = .ok (.ireturn, 1) := by decide +kernel
theorem dX10_best_21 : decode cX10_best 21 = .ok (.aload_n 0, 1) := by decide +kernel
theorem dX10_best_22 : decode cX10_best 22 = .ok (.invokevirtual 284, 3) := by decide +kernel
theorem dX10_best_25 : decode cX10_best 25 = .ok (.iload_n 1, 1) := by decide +kernel
theorem dX10_best_26 : decode cX10_best 26 = .ok (.istore 4, 2) := by decide +kernel
theorem dX10_best_28 : decode cX10_best 28 = .ok (.iload_n 2, 1) := by decide +kernel
theorem dX10_best_29 : decode cX10_best 29 = .ok (.aload_n 0, 1) := by decide +kernel
theorem dX10_best_30 : decode cX10_best 30 = .ok (.getfield 7, 3) := by decide +kernel
theorem dX10_best_33 : decode cX10_best 33 = .ok (.iconst 0, 1) := by decide +kernel
theorem dX10_best_34 : decode cX10_best 34 = .ok (.iaload, 1) := by decide +kernel
theorem dX10_best_35 : decode cX10_best 35 = .ok (.imul, 1) := by decide +kernel
theorem dX10_best_36 : decode cX10_best 36 = .ok (.iload_n 3, 1) := by decide +kernel
theorem dX10_best_37 : decode cX10_best 37 = .ok (.iadd, 1) := by decide +kernel
theorem dX10_best_38 : decode cX10_best 38 = .ok (.istore 5, 2) := by decide +kernel
theorem dX10_best_40 : decode cX10_best 40 = .ok (.iconst 0, 1) := by decide +kernel
theorem dX10_best_41 : decode cX10_best 41 = .ok (.istore 6, 2) := by decide +kernel
theorem dX10_best_43 : decode cX10_best 43 = .ok (.iload 6, 2) := by decide +kernel
theorem dX10_best_45 : decode cX10_best 45 = .ok (.iload 5, 2) := by decide +kernel
theorem dX10_best_47 : decode cX10_best 47 = .ok (.if_icmp .ge 45, 3) := by decide +kernel
theorem dX10_best_50 : decode cX10_best 50 = .ok (.iload 4, 2) := by decide +kernel
theorem dX10_best_52 : decode cX10_best 52 = .ok (.aload_n 0, 1) := by decide +kernel
theorem dX10_best_53 : decode cX10_best 53 = .ok (.getfield 41, 3) := by decide +kernel
theorem dX10_best_56 : decode cX10_best 56 = .ok (.bipush 100, 2) := by decide +kernel
theorem dX10_best_58 : decode cX10_best 58 = .ok (.iload 6, 2) := by decide +kernel
theorem dX10_best_60 : decode cX10_best 60 = .ok (.imul, 1) := by decide +kernel
theorem dX10_best_61 : decode cX10_best 61 = .ok (.iload 4, 2) := by decide +kernel
theorem dX10_best_63 : decode cX10_best 63 = .ok (.iadd, 1) := by decide +kernel
theorem dX10_best_64 : decode cX10_best 64 = .ok (.iaload, 1) := by decide +kernel
theorem dX10_best_65 : decode cX10_best 65 = .ok (.aload_n 0, 1) := by decide +kernel
theorem dX10_best_66 : decode cX10_best 66 = .ok (.getfield 7, 3) := by decide +kernel
theorem dX10_best_69 : decode cX10_best 69 = .ok (.bipush 20, 2) := by decide +kernel
theorem dX10_best_71 : decode cX10_best 71 = .ok (.iload 6, 2) := by decide +kernel
theorem dX10_best_73 : decode cX10_best 73 = .ok (.aload_n 0, 1) := by decide +kernel
theorem dX10_best_74 : decode cX10_best 74 = .ok (.getfield 7, 3) := by decide +kernel
theorem dX10_best_77 : decode cX10_best 77 = .ok (.iconst 0, 1) := by decide +kernel
theorem dX10_best_78 : decode cX10_best 78 = .ok (.iaload, 1) := by decide +kernel
theorem dX10_best_79 : decode cX10_best 79 = .ok (.irem, 1) := by decide +kernel
theorem dX10_best_80 : decode cX10_best 80 = .ok (.iadd, 1) := by decide +kernel
theorem dX10_best_81 : decode cX10_best 81 = .ok (.iaload, 1) := by decide +kernel
theorem dX10_best_82 : decode cX10_best 82 = .ok (.imul, 1) := by decide +kernel
theorem dX10_best_83 : decode cX10_best 83 = .ok (.isub, 1) := by decide +kernel
theorem dX10_best_84 : decode cX10_best 84 = .ok (.istore 4, 2) := by decide +kernel
theorem dX10_best_86 : decode cX10_best 86 = .ok (.iinc 6 1, 3) := by decide +kernel
theorem dX10_best_89 : decode cX10_best 89 = .ok (.goto (-46), 3) := by decide +kernel
theorem dX10_best_92 : decode cX10_best 92 = .ok (.aload_n 0, 1) := by decide +kernel
theorem dX10_best_93 : decode cX10_best 93 = .ok (.getfield 41, 3) := by decide +kernel
theorem dX10_best_96 : decode cX10_best 96 = .ok (.bipush 100, 2) := by decide +kernel
theorem dX10_best_98 : decode cX10_best 98 = .ok (.iload 5, 2) := by decide +kernel
theorem dX10_best_100 : decode cX10_best 100 = .ok (.imul, 1) := by decide +kernel
theorem dX10_best_101 : decode cX10_best 101 = .ok (.iload 4, 2) := by decide +kernel
theorem dX10_best_103 : decode cX10_best 103 = .ok (.iadd, 1) := by decide +kernel
theorem dX10_best_104 : decode cX10_best 104 = .ok (.iaload, 1) := by decide +kernel
theorem dX10_best_105 : decode cX10_best 105 = .ok (.ireturn, 1) := by decide +kernel
theorem dX10_purseFor_0 : decode cX10_purseFor 0 = .ok (.iload_n 1, 1) := by decide +kernel
theorem dX10_purseFor_1 : decode cX10_purseFor 1 = .ok (.iconst 0, 1) := by decide +kernel
theorem dX10_purseFor_2 : decode cX10_purseFor 2 = .ok (.bipush 100, 2) := by decide +kernel
theorem dX10_purseFor_4 : decode cX10_purseFor 4 = .ok (.invokestatic 51, 3) := by decide +kernel
theorem dX10_purseFor_7 : decode cX10_purseFor 7 = .ok (.ifCond .ne 5, 3) := by decide +kernel
theorem dX10_purseFor_10 : decode cX10_purseFor 10 = .ok (.iconst (-1), 1) := by decide +kernel
theorem dX10_purseFor_11 : decode cX10_purseFor 11 = .ok (.ireturn, 1) := by decide +kernel
theorem dX10_purseFor_12 : decode cX10_purseFor 12 = .ok (.aload_n 0, 1) := by decide +kernel
theorem dX10_purseFor_13 : decode cX10_purseFor 13 = .ok (.invokevirtual 284, 3) := by decide +kernel
theorem dX10_purseFor_16 : decode cX10_purseFor 16 = .ok (.iconst 0, 1) := by decide +kernel
theorem dX10_purseFor_17 : decode cX10_purseFor 17 = .ok (.istore_n 2, 1) := by decide +kernel
theorem dX10_purseFor_18 : decode cX10_purseFor 18 = .ok (.iload_n 2, 1) := by decide +kernel
theorem dX10_purseFor_19 : decode cX10_purseFor 19 = .ok (.bipush 9, 2) := by decide +kernel
theorem dX10_purseFor_21 : decode cX10_purseFor 21 = .ok (.if_icmp .ge 16, 3) := by decide +kernel
theorem dX10_purseFor_24 : decode cX10_purseFor 24 = .ok (.aload_n 0, 1) := by decide +kernel
theorem dX10_purseFor_25 : decode cX10_purseFor 25 = .ok (.getfield 31, 3) := by decide +kernel
theorem dX10_purseFor_28 : decode cX10_purseFor 28 = .ok (.iload_n 2, 1) := by decide +kernel
theorem dX10_purseFor_29 : decode cX10_purseFor 29 = .ok (.iconst 0, 1) := by decide +kernel
theorem dX10_purseFor_30 : decode cX10_purseFor 30 = .ok (.iastore, 1) := by decide +kernel
theorem dX10_purseFor_31 : decode cX10_purseFor 31 = .ok (.iinc 2 1, 3) := by decide +kernel
theorem dX10_purseFor_34 : decode cX10_purseFor 34 = .ok (.goto (-16), 3) := by decide +kernel
theorem dX10_purseFor_37 : decode cX10_purseFor 37 = .ok (.aload_n 0, 1) := by decide +kernel
theorem dX10_purseFor_38 : decode cX10_purseFor 38 = .ok (.aload_n 0, 1) := by decide +kernel
theorem dX10_purseFor_39 : decode cX10_purseFor 39 = .ok (.getfield 31, 3) := by decide +kernel
theorem dX10_purseFor_42 : decode cX10_purseFor 42 = .ok (.invokevirtual 260, 3) := by decide +kernel
theorem dX10_purseFor_45 : decode cX10_purseFor 45 = .ok (.lstore_n 2, 1) := by decide +kernel
theorem dX10_purseFor_46 : decode cX10_purseFor 46 = .ok (.iconst 0, 1) := by decide +kernel
theorem dX10_purseFor_47 : decode cX10_purseFor 47 = .ok (.istore 4, 2) := by decide +kernel
theorem dX10_purseFor_49 : decode cX10_purseFor 49 = .ok (.iload 4, 2) := by decide +kernel
theorem dX10_purseFor_51 : decode cX10_purseFor 51 = .ok (.bipush 100, 2) := by decide +kernel
theorem dX10_purseFor_53 : decode cX10_purseFor 53 = .ok (.if_icmp .ge 31, 3) := by decide +kernel
theorem dX10_purseFor_56 : decode cX10_purseFor 56 = .ok (.ldc2_w 264, 3) := by decide +kernel
theorem dX10_purseFor_59 : decode cX10_purseFor 59 = .ok (.aload_n 0, 1) := by decide +kernel
theorem dX10_purseFor_60 : decode cX10_purseFor 60 = .ok (.getfield 34, 3) := by decide +kernel
theorem dX10_purseFor_63 : decode cX10_purseFor 63 = .ok (.iload 4, 2) := by decide +kernel
theorem dX10_purseFor_65 : decode cX10_purseFor 65 = .ok (.laload, 1) := by decide +kernel
theorem dX10_purseFor_66 : decode cX10_purseFor 66 = .ok (.lmul, 1) := by decide +kernel
theorem dX10_purseFor_67 : decode cX10_purseFor 67 = .ok (.iload_n 1, 1) := by decide +kernel
theorem dX10_purseFor_68 : decode cX10_purseFor 68 = .ok (.i2l, 1) := by decide +kernel
theorem dX10_purseFor_69 : decode cX10_purseFor 69 = .ok (.lload_n 2, 1) := by decide +kernel
theorem dX10_purseFor_70 : decode cX10_purseFor 70 = .ok (.lmul, 1) := by decide +kernel
theorem dX10_purseFor_71 : decode cX10_purseFor 71 = .ok (.lcmp, 1) := by decide +kernel
theorem dX10_purseFor_72 : decode cX10_purseFor 72 = .ok (.ifCond .gt 6, 3) := by decide +kernel
theorem dX10_purseFor_75 : decode cX10_purseFor 75 = .ok (.iload 4, 2) := by decide +kernel
theorem dX10_purseFor_77 : decode cX10_purseFor 77 = .ok (.ireturn, 1) := by decide +kernel
theorem dX10_purseFor_78 : decode cX10_purseFor 78 = .ok (.iinc 4 1, 3) := by decide +kernel
theorem dX10_purseFor_81 : decode cX10_purseFor 81 = .ok (.goto (-32), 3) := by decide +kernel
theorem dX10_purseFor_84 : decode cX10_purseFor 84 = .ok (.bipush (-2), 2) := by decide +kernel
theorem dX10_purseFor_86 : decode cX10_purseFor 86 = .ok (.ireturn, 1) := by decide +kernel
theorem dX10_would_0 : decode cX10_would 0 = .ok (.aload_n 0, 1) := by decide +kernel
theorem dX10_would_1 : decode cX10_would 1 = .ok (.iload_n 1, 1) := by decide +kernel
theorem dX10_would_2 : decode cX10_would 2 = .ok (.bipush 12, 2) := by decide +kernel
theorem dX10_would_4 : decode cX10_would 4 = .ok (.invokevirtual 217, 3) := by decide +kernel
theorem dX10_would_7 : decode cX10_would 7 = .ok (.ifCond .eq 13, 3) := by decide +kernel
theorem dX10_would_10 : decode cX10_would 10 = .ok (.iload_n 3, 1) := by decide +kernel
theorem dX10_would_11 : decode cX10_would 11 = .ok (.iconst 0, 1) := by decide +kernel
theorem dX10_would_12 : decode cX10_would 12 = .ok (.bipush 10, 2) := by decide +kernel
theorem dX10_would_14 : decode cX10_would 14 = .ok (.invokestatic 51, 3) := by decide +kernel
theorem dX10_would_17 : decode cX10_would 17 = .ok (.ifCond .ne 5, 3) := by decide +kernel
theorem dX10_would_20 : decode cX10_would 20 = .ok (.iconst (-1), 1) := by decide +kernel
theorem dX10_would_21 : decode cX10_would 21 = .ok (.ireturn, 1) := by decide +kernel
theorem dX10_would_22 : decode cX10_would 22 = .ok (.aload_n 0, 1) := by decide +kernel
theorem dX10_would_23 : decode cX10_would 23 = .ok (.invokevirtual 141, 3) := by decide +kernel
theorem dX10_would_26 : decode cX10_would 26 = .ok (.aload_n 0, 1) := by decide +kernel
theorem dX10_would_27 : decode cX10_would 27 = .ok (.iload_n 1, 1) := by decide +kernel
theorem dX10_would_28 : decode cX10_would 28 = .ok (.iload_n 2, 1) := by decide +kernel
theorem dX10_would_29 : decode cX10_would 29 = .ok (.invokevirtual 220, 3) := by decide +kernel
theorem dX10_would_32 : decode cX10_would 32 = .ok (.istore 4, 2) := by decide +kernel
theorem dX10_would_34 : decode cX10_would 34 = .ok (.aload_n 0, 1) := by decide +kernel
theorem dX10_would_35 : decode cX10_would 35 = .ok (.iload_n 3, 1) := by decide +kernel
theorem dX10_would_36 : decode cX10_would 36 = .ok (.invokevirtual 287, 3) := by decide +kernel
theorem dX10_would_39 : decode cX10_would 39 = .ok (.istore 5, 2) := by decide +kernel
theorem dX10_would_41 : decode cX10_would 41 = .ok (.aload_n 0, 1) := by decide +kernel
theorem dX10_would_42 : decode cX10_would 42 = .ok (.invokevirtual 147, 3) := by decide +kernel
theorem dX10_would_45 : decode cX10_would 45 = .ok (.iload 5, 2) := by decide +kernel
theorem dX10_would_47 : decode cX10_would 47 = .ok (.ireturn, 1) := by decide +kernel
theorem dX10_spared_0 : decode cX10_spared 0 = .ok (.aload_n 0, 1) := by decide +kernel
theorem dX10_spared_1 : decode cX10_spared 1 = .ok (.iload_n 1, 1) := by decide +kernel
theorem dX10_spared_2 : decode cX10_spared 2 = .ok (.bipush 12, 2) := by decide +kernel
theorem dX10_spared_4 : decode cX10_spared 4 = .ok (.invokevirtual 217, 3) := by decide +kernel
theorem dX10_spared_7 : decode cX10_spared 7 = .ok (.ifCond .eq 13, 3) := by decide +kernel
theorem dX10_spared_10 : decode cX10_spared 10 = .ok (.aload_n 0, 1) := by decide +kernel
theorem dX10_spared_11 : decode cX10_spared 11 = .ok (.iload_n 3, 1) := by decide +kernel
theorem dX10_spared_12 : decode cX10_spared 12 = .ok (.iload 4, 2) := by decide +kernel
theorem dX10_spared_14 : decode cX10_spared 14 = .ok (.invokevirtual 211, 3) := by decide +kernel
theorem dX10_spared_17 : decode cX10_spared 17 = .ok (.ifCond .ne 7, 3) := by decide +kernel
theorem dX10_spared_20 : decode cX10_spared 20 = .ok (.ldc_w 290, 3) := by decide +kernel
theorem dX10_spared_23 : decode cX10_spared 23 = .ok (.ireturn, 1) := by decide +kernel
theorem dX10_spared_24 : decode cX10_spared 24 = .ok (.aload_n 0, 1) := by decide +kernel
theorem dX10_spared_25 : decode cX10_spared 25 = .ok (.iload_n 1, 1) := by decide +kernel
theorem dX10_spared_26 : decode cX10_spared 26 = .ok (.iload_n 2, 1) := by decide +kernel
theorem dX10_spared_27 : decode cX10_spared 27 = .ok (.iconst 5, 1) := by decide +kernel
theorem dX10_spared_28 : decode cX10_spared 28 = .ok (.invokevirtual 291, 3) := by decide +kernel
theorem dX10_spared_31 : decode cX10_spared 31 = .ok (.istore 5, 2) := by decide +kernel
theorem dX10_spared_33 : decode cX10_spared 33 = .ok (.aload_n 0, 1) := by decide +kernel
theorem dX10_spared_34 : decode cX10_spared 34 = .ok (.invokevirtual 141, 3) := by decide +kernel
theorem dX10_spared_37 : decode cX10_spared 37 = .ok (.aload_n 0, 1) := by decide +kernel
theorem dX10_spared_38 : decode cX10_spared 38 = .ok (.getfield 7, 3) := by decide +kernel
theorem dX10_spared_41 : decode cX10_spared 41 = .ok (.bipush 50, 2) := by decide +kernel
theorem dX10_spared_43 : decode cX10_spared 43 = .ok (.iload_n 3, 1) := by decide +kernel
theorem dX10_spared_44 : decode cX10_spared 44 = .ok (.iload 4, 2) := by decide +kernel
theorem dX10_spared_46 : decode cX10_spared 46 = .ok (.invokestatic 104, 3) := by decide +kernel
theorem dX10_spared_49 : decode cX10_spared 49 = .ok (.iadd, 1) := by decide +kernel
theorem dX10_spared_50 : decode cX10_spared 50 = .ok (.dup2, 1) := by decide +kernel
theorem dX10_spared_51 : decode cX10_spared 51 = .ok (.iaload, 1) := by decide +kernel
theorem dX10_spared_52 : decode cX10_spared 52 = .ok (.iconst 1, 1) := by decide +kernel
theorem dX10_spared_53 : decode cX10_spared 53 = .ok (.iadd, 1) := by decide +kernel
theorem dX10_spared_54 : decode cX10_spared 54 = .ok (.iastore, 1) := by decide +kernel
theorem dX10_spared_55 : decode cX10_spared 55 = .ok (.aload_n 0, 1) := by decide +kernel
theorem dX10_spared_56 : decode cX10_spared 56 = .ok (.iload_n 3, 1) := by decide +kernel
theorem dX10_spared_57 : decode cX10_spared 57 = .ok (.iload 4, 2) := by decide +kernel
theorem dX10_spared_59 : decode cX10_spared 59 = .ok (.invokevirtual 181, 3) := by decide +kernel
theorem dX10_spared_62 : decode cX10_spared 62 = .ok (.aload_n 0, 1) := by decide +kernel
theorem dX10_spared_63 : decode cX10_spared 63 = .ok (.iload_n 1, 1) := by decide +kernel
theorem dX10_spared_64 : decode cX10_spared 64 = .ok (.iload_n 2, 1) := by decide +kernel
theorem dX10_spared_65 : decode cX10_spared 65 = .ok (.invokevirtual 220, 3) := by decide +kernel
theorem dX10_spared_68 : decode cX10_spared 68 = .ok (.istore 6, 2) := by decide +kernel
theorem dX10_spared_70 : decode cX10_spared 70 = .ok (.iload 5, 2) := by decide +kernel
theorem dX10_spared_72 : decode cX10_spared 72 = .ok (.aload_n 0, 1) := by decide +kernel
theorem dX10_spared_73 : decode cX10_spared 73 = .ok (.invokevirtual 239, 3) := by decide +kernel
theorem dX10_spared_76 : decode cX10_spared 76 = .ok (.isub, 1) := by decide +kernel
theorem dX10_spared_77 : decode cX10_spared 77 = .ok (.istore 7, 2) := by decide +kernel
theorem dX10_spared_79 : decode cX10_spared 79 = .ok (.aload_n 0, 1) := by decide +kernel
theorem dX10_spared_80 : decode cX10_spared 80 = .ok (.invokevirtual 147, 3) := by decide +kernel
theorem dX10_spared_83 : decode cX10_spared 83 = .ok (.iload 7, 2) := by decide +kernel
theorem dX10_spared_85 : decode cX10_spared 85 = .ok (.ireturn, 1) := by decide +kernel
theorem dX10_by_0 : decode cX10_by 0 = .ok (.aload_n 0, 1) := by decide +kernel
theorem dX10_by_1 : decode cX10_by 1 = .ok (.iload_n 1, 1) := by decide +kernel
theorem dX10_by_2 : decode cX10_by 2 = .ok (.bipush 12, 2) := by decide +kernel
theorem dX10_by_4 : decode cX10_by 4 = .ok (.invokevirtual 217, 3) := by decide +kernel
theorem dX10_by_7 : decode cX10_by 7 = .ok (.ifCond .eq 48, 3) := by decide +kernel
theorem dX10_by_10 : decode cX10_by 10 = .ok (.iload_n 3, 1) := by decide +kernel
theorem dX10_by_11 : decode cX10_by 11 = .ok (.iconst 0, 1) := by decide +kernel
theorem dX10_by_12 : decode cX10_by 12 = .ok (.iconst 2, 1) := by decide +kernel
theorem dX10_by_13 : decode cX10_by 13 = .ok (.invokestatic 51, 3) := by decide +kernel
theorem dX10_by_16 : decode cX10_by 16 = .ok (.ifCond .eq 39, 3) := by decide +kernel
theorem dX10_by_19 : decode cX10_by 19 = .ok (.iload 4, 2) := by decide +kernel
theorem dX10_by_21 : decode cX10_by 21 = .ok (.iload_n 3, 1) := by decide +kernel
theorem dX10_by_22 : decode cX10_by 22 = .ok (.iconst 2, 1) := by decide +kernel
theorem dX10_by_23 : decode cX10_by 23 = .ok (.if_icmp .ne 7, 3) := by decide +kernel
theorem dX10_by_26 : decode cX10_by 26 = .ok (.iconst 1, 1) := by decide +kernel
theorem dX10_by_27 : decode cX10_by 27 = .ok (.goto 4, 3) := by decide +kernel
theorem dX10_by_30 : decode cX10_by 30 = .ok (.iconst 0, 1) := by decide +kernel
theorem dX10_by_31 : decode cX10_by 31 = .ok (.iload_n 3, 1) := by decide +kernel
theorem dX10_by_32 : decode cX10_by 32 = .ok (.ifCond .ne 7, 3) := by decide +kernel
theorem dX10_by_35 : decode cX10_by 35 = .ok (.iconst 1, 1) := by decide +kernel
theorem dX10_by_36 : decode cX10_by 36 = .ok (.goto 13, 3) := by decide +kernel
theorem dX10_by_39 : decode cX10_by 39 = .ok (.iload_n 3, 1) := by decide +kernel
theorem dX10_by_40 : decode cX10_by 40 = .ok (.iconst 1, 1) := by decide +kernel
theorem dX10_by_41 : decode cX10_by 41 = .ok (.if_icmp .ne 7, 3) := by decide +kernel
theorem dX10_by_44 : decode cX10_by 44 = .ok (.iconst 4, 1) := by decide +kernel
theorem dX10_by_45 : decode cX10_by 45 = .ok (.goto 4, 3) := by decide +kernel
theorem dX10_by_48 : decode cX10_by 48 = .ok (.iconst 3, 1) := by decide +kernel
theorem dX10_by_49 : decode cX10_by 49 = .ok (.invokestatic 51, 3) := by decide +kernel
theorem dX10_by_52 : decode cX10_by 52 = .ok (.ifCond .ne 5, 3) := by decide +kernel
theorem dX10_by_55 : decode cX10_by 55 = .ok (.iconst (-1), 1) := by decide +kernel
theorem dX10_by_56 : decode cX10_by 56 = .ok (.ireturn, 1) := by decide +kernel
theorem dX10_by_57 : decode cX10_by 57 = .ok (.aload_n 0, 1) := by decide +kernel
theorem dX10_by_58 : decode cX10_by 58 = .ok (.invokevirtual 141, 3) := by decide +kernel
theorem dX10_by_61 : decode cX10_by 61 = .ok (.aload_n 0, 1) := by decide +kernel
theorem dX10_by_62 : decode cX10_by 62 = .ok (.getfield 7, 3) := by decide +kernel
theorem dX10_by_65 : decode cX10_by 65 = .ok (.iload_n 3, 1) := by decide +kernel
theorem dX10_by_66 : decode cX10_by 66 = .ok (.ifCond .ne 7, 3) := by decide +kernel
theorem dX10_by_69 : decode cX10_by 69 = .ok (.iconst 4, 1) := by decide +kernel
theorem dX10_by_70 : decode cX10_by 70 = .ok (.goto 13, 3) := by decide +kernel
theorem dX10_by_73 : decode cX10_by 73 = .ok (.iload_n 3, 1) := by decide +kernel
theorem dX10_by_74 : decode cX10_by 74 = .ok (.iconst 1, 1) := by decide +kernel
theorem dX10_by_75 : decode cX10_by 75 = .ok (.if_icmp .ne 7, 3) := by decide +kernel
theorem dX10_by_78 : decode cX10_by 78 = .ok (.iconst 3, 1) := by decide +kernel
theorem dX10_by_79 : decode cX10_by 79 = .ok (.goto 4, 3) := by decide +kernel
theorem dX10_by_82 : decode cX10_by 82 = .ok (.iconst 2, 1) := by decide +kernel
theorem dX10_by_83 : decode cX10_by 83 = .ok (.iload 4, 2) := by decide +kernel
theorem dX10_by_85 : decode cX10_by 85 = .ok (.iastore, 1) := by decide +kernel
theorem dX10_by_86 : decode cX10_by 86 = .ok (.aload_n 0, 1) := by decide +kernel
theorem dX10_by_87 : decode cX10_by 87 = .ok (.invokevirtual 178, 3) := by decide +kernel
theorem dX10_by_90 : decode cX10_by 90 = .ok (.aload_n 0, 1) := by decide +kernel
theorem dX10_by_91 : decode cX10_by 91 = .ok (.iload_n 1, 1) := by decide +kernel
theorem dX10_by_92 : decode cX10_by 92 = .ok (.iload_n 2, 1) := by decide +kernel
theorem dX10_by_93 : decode cX10_by 93 = .ok (.invokevirtual 220, 3) := by decide +kernel
theorem dX10_by_96 : decode cX10_by 96 = .ok (.istore 5, 2) := by decide +kernel
theorem dX10_by_98 : decode cX10_by 98 = .ok (.aload_n 0, 1) := by decide +kernel
theorem dX10_by_99 : decode cX10_by 99 = .ok (.invokevirtual 239, 3) := by decide +kernel
theorem dX10_by_102 : decode cX10_by 102 = .ok (.istore 6, 2) := by decide +kernel
theorem dX10_by_104 : decode cX10_by 104 = .ok (.aload_n 0, 1) := by decide +kernel
theorem dX10_by_105 : decode cX10_by 105 = .ok (.invokevirtual 147, 3) := by decide +kernel
theorem dX10_by_108 : decode cX10_by 108 = .ok (.iload 6, 2) := by decide +kernel
theorem dX10_by_110 : decode cX10_by 110 = .ok (.ireturn, 1) := by decide +kernel
theorem dX10_bestKeep_0 : decode cX10_bestKeep 0 = .ok (.aload_n 0, 1) := by decide +kernel
theorem dX10_bestKeep_1 : decode cX10_bestKeep 1 = .ok (.iload_n 1, 1) := by decide +kernel
theorem dX10_bestKeep_2 : decode cX10_bestKeep 2 = .ok (.bipush 12, 2) := by decide +kernel
theorem dX10_bestKeep_4 : decode cX10_bestKeep 4 = .ok (.invokevirtual 217, 3) := by decide +kernel
theorem dX10_bestKeep_7 : decode cX10_bestKeep 7 = .ok (.ifCond .ne 5, 3) := by decide +kernel
theorem dX10_bestKeep_10 : decode cX10_bestKeep 10 = .ok (.iconst (-1), 1) := by decide +kernel
theorem dX10_bestKeep_11 : decode cX10_bestKeep 11 = .ok (.ireturn, 1) := by decide +kernel
theorem dX10_bestKeep_12 : decode cX10_bestKeep 12 = .ok (.iconst 0, 1) := by decide +kernel
theorem dX10_bestKeep_13 : decode cX10_bestKeep 13 = .ok (.istore_n 3, 1) := by decide +kernel
theorem dX10_bestKeep_14 : decode cX10_bestKeep 14 = .ok (.aload_n 0, 1) := by decide +kernel
theorem dX10_bestKeep_15 : decode cX10_bestKeep 15 = .ok (.iload_n 1, 1) := by decide +kernel
theorem dX10_bestKeep_16 : decode cX10_bestKeep 16 = .ok (.iload_n 2, 1) := by decide +kernel
theorem dX10_bestKeep_17 : decode cX10_bestKeep 17 = .ok (.iconst 1, 1) := by decide +kernel
theorem dX10_bestKeep_18 : decode cX10_bestKeep 18 = .ok (.iconst 0, 1) := by decide +kernel
theorem dX10_bestKeep_19 : decode cX10_bestKeep 19 = .ok (.invokevirtual 294, 3) := by decide +kernel
theorem dX10_bestKeep_22 : decode cX10_bestKeep 22 = .ok (.istore 4, 2) := by decide +kernel
theorem dX10_bestKeep_24 : decode cX10_bestKeep 24 = .ok (.iconst 1, 1) := by decide +kernel
theorem dX10_bestKeep_25 : decode cX10_bestKeep 25 = .ok (.istore 5, 2) := by decide +kernel
theorem dX10_bestKeep_27 : decode cX10_bestKeep 27 = .ok (.iload 5, 2) := by decide +kernel
theorem dX10_bestKeep_29 : decode cX10_bestKeep 29 = .ok (.iconst 5, 1) := by decide +kernel
theorem dX10_bestKeep_30 : decode cX10_bestKeep 30 = .ok (.if_icmp .ge 50, 3) := by decide +kernel
theorem dX10_bestKeep_33 : decode cX10_bestKeep 33 = .ok (.aload_n 0, 1) := by decide +kernel
theorem dX10_bestKeep_34 : decode cX10_bestKeep 34 = .ok (.iload_n 1, 1) := by decide +kernel
theorem dX10_bestKeep_35 : decode cX10_bestKeep 35 = .ok (.iload_n 2, 1) := by decide +kernel
theorem dX10_bestKeep_36 : decode cX10_bestKeep 36 = .ok (.iconst 1, 1) := by decide +kernel
theorem dX10_bestKeep_37 : decode cX10_bestKeep 37 = .ok (.iload 5, 2) := by decide +kernel
theorem dX10_bestKeep_39 : decode cX10_bestKeep 39 = .ok (.invokevirtual 294, 3) := by decide +kernel
theorem dX10_bestKeep_42 : decode cX10_bestKeep 42 = .ok (.istore 6, 2) := by decide +kernel
theorem dX10_bestKeep_44 : decode cX10_bestKeep 44 = .ok (.iload 6, 2) := by decide +kernel
theorem dX10_bestKeep_46 : decode cX10_bestKeep 46 = .ok (.iload 4, 2) := by decide +kernel
theorem dX10_bestKeep_48 : decode cX10_bestKeep 48 = .ok (.if_icmp .ge 8, 3) := by decide +kernel
theorem dX10_bestKeep_51 : decode cX10_bestKeep 51 = .ok (.iload 5, 2) := by decide +kernel
theorem dX10_bestKeep_53 : decode cX10_bestKeep 53 = .ok (.goto 4, 3) := by decide +kernel
theorem dX10_bestKeep_56 : decode cX10_bestKeep 56 = .ok (.iload_n 3, 1) := by decide +kernel
theorem dX10_bestKeep_57 : decode cX10_bestKeep 57 = .ok (.istore_n 3, 1) := by decide +kernel
theorem dX10_bestKeep_58 : decode cX10_bestKeep 58 = .ok (.iload 6, 2) := by decide +kernel
theorem dX10_bestKeep_60 : decode cX10_bestKeep 60 = .ok (.iload 4, 2) := by decide +kernel
theorem dX10_bestKeep_62 : decode cX10_bestKeep 62 = .ok (.if_icmp .ge 8, 3) := by decide +kernel
theorem dX10_bestKeep_65 : decode cX10_bestKeep 65 = .ok (.iload 6, 2) := by decide +kernel
theorem dX10_bestKeep_67 : decode cX10_bestKeep 67 = .ok (.goto 5, 3) := by decide +kernel
theorem dX10_bestKeep_70 : decode cX10_bestKeep 70 = .ok (.iload 4, 2) := by decide +kernel
theorem dX10_bestKeep_72 : decode cX10_bestKeep 72 = .ok (.istore 4, 2) := by decide +kernel
theorem dX10_bestKeep_74 : decode cX10_bestKeep 74 = .ok (.iinc 5 1, 3) := by decide +kernel
theorem dX10_bestKeep_77 : decode cX10_bestKeep 77 = .ok (.goto (-50), 3) := by decide +kernel
theorem dX10_bestKeep_80 : decode cX10_bestKeep 80 = .ok (.iload_n 3, 1) := by decide +kernel
theorem dX10_bestKeep_81 : decode cX10_bestKeep 81 = .ok (.ireturn, 1) := by decide +kernel
theorem dX10_quiet_0 : decode cX10_quiet 0 = .ok (.aload_n 0, 1) := by decide +kernel
theorem dX10_quiet_1 : decode cX10_quiet 1 = .ok (.invokevirtual 141, 3) := by decide +kernel
theorem dX10_quiet_4 : decode cX10_quiet 4 = .ok (.aload_n 0, 1) := by decide +kernel
theorem dX10_quiet_5 : decode cX10_quiet 5 = .ok (.getfield 7, 3) := by decide +kernel
theorem dX10_quiet_8 : decode cX10_quiet 8 = .ok (.bipush 16, 2) := by decide +kernel
theorem dX10_quiet_10 : decode cX10_quiet 10 = .ok (.iaload, 1) := by decide +kernel
theorem dX10_quiet_11 : decode cX10_quiet 11 = .ok (.ifCond .le 22, 3) := by decide +kernel
theorem dX10_quiet_14 : decode cX10_quiet 14 = .ok (.aload_n 0, 1) := by decide +kernel
theorem dX10_quiet_15 : decode cX10_quiet 15 = .ok (.getfield 7, 3) := by decide +kernel
theorem dX10_quiet_18 : decode cX10_quiet 18 = .ok (.iconst 5, 1) := by decide +kernel
theorem dX10_quiet_19 : decode cX10_quiet 19 = .ok (.iaload, 1) := by decide +kernel
theorem dX10_quiet_20 : decode cX10_quiet 20 = .ok (.sipush 9999, 3) := by decide +kernel
theorem dX10_quiet_23 : decode cX10_quiet 23 = .ok (.if_icmp .ge 10, 3) := by decide +kernel
theorem dX10_quiet_26 : decode cX10_quiet 26 = .ok (.aload_n 0, 1) := by decide +kernel
theorem dX10_quiet_27 : decode cX10_quiet 27 = .ok (.invokevirtual 208, 3) := by decide +kernel
theorem dX10_quiet_30 : decode cX10_quiet 30 = .ok (.goto (-26), 3) := by decide +kernel
theorem dX10_quiet_33 : decode cX10_quiet 33 = .ok (.aload_n 0, 1) := by decide +kernel
theorem dX10_quiet_34 : decode cX10_quiet 34 = .ok (.getfield 7, 3) := by decide +kernel
theorem dX10_quiet_37 : decode cX10_quiet 37 = .ok (.bipush 16, 2) := by decide +kernel
theorem dX10_quiet_39 : decode cX10_quiet 39 = .ok (.iaload, 1) := by decide +kernel
theorem dX10_quiet_40 : decode cX10_quiet 40 = .ok (.ifCond .le 8, 3) := by decide +kernel
theorem dX10_quiet_43 : decode cX10_quiet 43 = .ok (.bipush (-2), 2) := by decide +kernel
theorem dX10_quiet_45 : decode cX10_quiet 45 = .ok (.goto 9, 3) := by decide +kernel
theorem dX10_quiet_48 : decode cX10_quiet 48 = .ok (.aload_n 0, 1) := by decide +kernel
theorem dX10_quiet_49 : decode cX10_quiet 49 = .ok (.getfield 7, 3) := by decide +kernel
theorem dX10_quiet_52 : decode cX10_quiet 52 = .ok (.iconst 5, 1) := by decide +kernel
theorem dX10_quiet_53 : decode cX10_quiet 53 = .ok (.iaload, 1) := by decide +kernel
theorem dX10_quiet_54 : decode cX10_quiet 54 = .ok (.istore_n 1, 1) := by decide +kernel
theorem dX10_quiet_55 : decode cX10_quiet 55 = .ok (.aload_n 0, 1) := by decide +kernel
theorem dX10_quiet_56 : decode cX10_quiet 56 = .ok (.invokevirtual 147, 3) := by decide +kernel
theorem dX10_quiet_59 : decode cX10_quiet 59 = .ok (.iload_n 1, 1) := by decide +kernel
theorem dX10_quiet_60 : decode cX10_quiet 60 = .ok (.ireturn, 1) := by decide +kernel
theorem dX10_spells_0 : decode cX10_spells 0 = .ok (.lconst 1, 1) := by decide +kernel
theorem dX10_spells_1 : decode cX10_spells 1 = .ok (.lstore_n 3, 1) := by decide +kernel
theorem dX10_spells_2 : decode cX10_spells 2 = .ok (.ldc2_w 93, 3) := by decide +kernel
theorem dX10_spells_5 : decode cX10_spells 5 = .ok (.lload_n 3, 1) := by decide +kernel
theorem dX10_spells_6 : decode cX10_spells 6 = .ok (.lmul, 1) := by decide +kernel
theorem dX10_spells_7 : decode cX10_spells 7 = .ok (.lload_n 1, 1) := by decide +kernel
theorem dX10_spells_8 : decode cX10_spells 8 = .ok (.lcmp, 1) := by decide +kernel
theorem dX10_spells_9 : decode cX10_spells 9 = .ok (.ifCond .gt 12, 3) := by decide +kernel
theorem dX10_spells_12 : decode cX10_spells 12 = .ok (.lload_n 3, 1) := by decide +kernel
theorem dX10_spells_13 : decode cX10_spells 13 = .ok (.ldc2_w 93, 3) := by decide +kernel
theorem dX10_spells_16 : decode cX10_spells 16 = .ok (.lmul, 1) := by decide +kernel
theorem dX10_spells_17 : decode cX10_spells 17 = .ok (.lstore_n 3, 1) := by decide +kernel
theorem dX10_spells_18 : decode cX10_spells 18 = .ok (.goto (-16), 3) := by decide +kernel
theorem dX10_spells_21 : decode cX10_spells 21 = .ok (.lload_n 3, 1) := by decide +kernel
theorem dX10_spells_22 : decode cX10_spells 22 = .ok (.lstore 5, 2) := by decide +kernel
theorem dX10_spells_24 : decode cX10_spells 24 = .ok (.lload 5, 2) := by decide +kernel
theorem dX10_spells_26 : decode cX10_spells 26 = .ok (.lconst 0, 1) := by decide +kernel
theorem dX10_spells_27 : decode cX10_spells 27 = .ok (.lcmp, 1) := by decide +kernel
theorem dX10_spells_28 : decode cX10_spells 28 = .ok (.ifCond .le 45, 3) := by decide +kernel
theorem dX10_spells_31 : decode cX10_spells 31 = .ok (.aload_n 0, 1) := by decide +kernel
theorem dX10_spells_32 : decode cX10_spells 32 = .ok (.getfield 44, 3) := by decide +kernel
theorem dX10_spells_35 : decode cX10_spells 35 = .ok (.aload_n 0, 1) := by decide +kernel
theorem dX10_spells_36 : decode cX10_spells 36 = .ok (.getfield 297, 3) := by decide +kernel
theorem dX10_spells_39 : decode cX10_spells 39 = .ok (.lload_n 1, 1) := by decide +kernel
theorem dX10_spells_40 : decode cX10_spells 40 = .ok (.lload 5, 2) := by decide +kernel
theorem dX10_spells_42 : decode cX10_spells 42 = .ok (.ldiv, 1) := by decide +kernel
theorem dX10_spells_43 : decode cX10_spells 43 = .ok (.ldc2_w 93, 3) := by decide +kernel
theorem dX10_spells_46 : decode cX10_spells 46 = .ok (.lrem, 1) := by decide +kernel
theorem dX10_spells_47 : decode cX10_spells 47 = .ok (.l2i, 1) := by decide +kernel
theorem dX10_spells_48 : decode cX10_spells 48 = .ok (.bipush 96, 2) := by decide +kernel
theorem dX10_spells_50 : decode cX10_spells 50 = .ok (.iadd, 1) := by decide +kernel
theorem dX10_spells_51 : decode cX10_spells 51 = .ok (.iastore, 1) := by decide +kernel
theorem dX10_spells_52 : decode cX10_spells 52 = .ok (.aload_n 0, 1) := by decide +kernel
theorem dX10_spells_53 : decode cX10_spells 53 = .ok (.dup, 1) := by decide +kernel
theorem dX10_spells_54 : decode cX10_spells 54 = .ok (.getfield 297, 3) := by decide +kernel
theorem dX10_spells_57 : decode cX10_spells 57 = .ok (.iconst 1, 1) := by decide +kernel
theorem dX10_spells_58 : decode cX10_spells 58 = .ok (.iadd, 1) := by decide +kernel
theorem dX10_spells_59 : decode cX10_spells 59 = .ok (.putfield 297, 3) := by decide +kernel
theorem dX10_spells_62 : decode cX10_spells 62 = .ok (.lload 5, 2) := by decide +kernel
theorem dX10_spells_64 : decode cX10_spells 64 = .ok (.ldc2_w 93, 3) := by decide +kernel
theorem dX10_spells_67 : decode cX10_spells 67 = .ok (.ldiv, 1) := by decide +kernel
theorem dX10_spells_68 : decode cX10_spells 68 = .ok (.lstore 5, 2) := by decide +kernel
theorem dX10_spells_70 : decode cX10_spells 70 = .ok (.goto (-46), 3) := by decide +kernel
theorem dX10_spells_73 : decode cX10_spells 73 = .ok (.return_, 1) := by decide +kernel
theorem dX10_spellsNumber_0 : decode cX10_spellsNumber 0 = .ok (.aload_n 0, 1) := by decide +kernel
theorem dX10_spellsNumber_1 : decode cX10_spellsNumber 1 = .ok (.getfield 44, 3) := by decide +kernel
theorem dX10_spellsNumber_4 : decode cX10_spellsNumber 4 = .ok (.aload_n 0, 1) := by decide +kernel
theorem dX10_spellsNumber_5 : decode cX10_spellsNumber 5 = .ok (.getfield 297, 3) := by decide +kernel
theorem dX10_spellsNumber_8 : decode cX10_spellsNumber 8 = .ok (.bipush 32, 2) := by decide +kernel
theorem dX10_spellsNumber_10 : decode cX10_spellsNumber 10 = .ok (.iastore, 1) := by decide +kernel
theorem dX10_spellsNumber_11 : decode cX10_spellsNumber 11 = .ok (.aload_n 0, 1) := by decide +kernel
theorem dX10_spellsNumber_12 : decode cX10_spellsNumber 12 = .ok (.dup, 1) := by decide +kernel
theorem dX10_spellsNumber_13 : decode cX10_spellsNumber 13 = .ok (.getfield 297, 3) := by decide +kernel
theorem dX10_spellsNumber_16 : decode cX10_spellsNumber 16 = .ok (.iconst 1, 1) := by decide +kernel
theorem dX10_spellsNumber_17 : decode cX10_spellsNumber 17 = .ok (.iadd, 1) := by decide +kernel
theorem dX10_spellsNumber_18 : decode cX10_spellsNumber 18 = .ok (.putfield 297, 3) := by decide +kernel
theorem dX10_spellsNumber_21 : decode cX10_spellsNumber 21 = .ok (.iload_n 1, 1) := by decide +kernel
theorem dX10_spellsNumber_22 : decode cX10_spellsNumber 22 = .ok (.bipush 9, 2) := by decide +kernel
theorem dX10_spellsNumber_24 : decode cX10_spellsNumber 24 = .ok (.if_icmp .le 29, 3) := by decide +kernel
theorem dX10_spellsNumber_27 : decode cX10_spellsNumber 27 = .ok (.aload_n 0, 1) := by decide +kernel
theorem dX10_spellsNumber_28 : decode cX10_spellsNumber 28 = .ok (.getfield 44, 3) := by decide +kernel
theorem dX10_spellsNumber_31 : decode cX10_spellsNumber 31 = .ok (.aload_n 0, 1) := by decide +kernel
theorem dX10_spellsNumber_32 : decode cX10_spellsNumber 32 = .ok (.getfield 297, 3) := by decide +kernel
theorem dX10_spellsNumber_35 : decode cX10_spellsNumber 35 = .ok (.bipush 48, 2) := by decide +kernel
theorem dX10_spellsNumber_37 : decode cX10_spellsNumber 37 = .ok (.iload_n 1, 1) := by decide +kernel
theorem dX10_spellsNumber_38 : decode cX10_spellsNumber 38 = .ok (.bipush 10, 2) := by decide +kernel
theorem dX10_spellsNumber_40 : decode cX10_spellsNumber 40 = .ok (.idiv, 1) := by decide +kernel
theorem dX10_spellsNumber_41 : decode cX10_spellsNumber 41 = .ok (.iadd, 1) := by decide +kernel
theorem dX10_spellsNumber_42 : decode cX10_spellsNumber 42 = .ok (.iastore, 1) := by decide +kernel
theorem dX10_spellsNumber_43 : decode cX10_spellsNumber 43 = .ok (.aload_n 0, 1) := by decide +kernel
theorem dX10_spellsNumber_44 : decode cX10_spellsNumber 44 = .ok (.dup, 1) := by decide +kernel
theorem dX10_spellsNumber_45 : decode cX10_spellsNumber 45 = .ok (.getfield 297, 3) := by decide +kernel
theorem dX10_spellsNumber_48 : decode cX10_spellsNumber 48 = .ok (.iconst 1, 1) := by decide +kernel
theorem dX10_spellsNumber_49 : decode cX10_spellsNumber 49 = .ok (.iadd, 1) := by decide +kernel
theorem dX10_spellsNumber_50 : decode cX10_spellsNumber 50 = .ok (.putfield 297, 3) := by decide +kernel
theorem dX10_spellsNumber_53 : decode cX10_spellsNumber 53 = .ok (.aload_n 0, 1) := by decide +kernel
theorem dX10_spellsNumber_54 : decode cX10_spellsNumber 54 = .ok (.getfield 44, 3) := by decide +kernel
theorem dX10_spellsNumber_57 : decode cX10_spellsNumber 57 = .ok (.aload_n 0, 1) := by decide +kernel
theorem dX10_spellsNumber_58 : decode cX10_spellsNumber 58 = .ok (.getfield 297, 3) := by decide +kernel
theorem dX10_spellsNumber_61 : decode cX10_spellsNumber 61 = .ok (.bipush 48, 2) := by decide +kernel
theorem dX10_spellsNumber_63 : decode cX10_spellsNumber 63 = .ok (.iload_n 1, 1) := by decide +kernel
theorem dX10_spellsNumber_64 : decode cX10_spellsNumber 64 = .ok (.bipush 10, 2) := by decide +kernel
theorem dX10_spellsNumber_66 : decode cX10_spellsNumber 66 = .ok (.irem, 1) := by decide +kernel
theorem dX10_spellsNumber_67 : decode cX10_spellsNumber 67 = .ok (.iadd, 1) := by decide +kernel
theorem dX10_spellsNumber_68 : decode cX10_spellsNumber 68 = .ok (.iastore, 1) := by decide +kernel
theorem dX10_spellsNumber_69 : decode cX10_spellsNumber 69 = .ok (.aload_n 0, 1) := by decide +kernel
theorem dX10_spellsNumber_70 : decode cX10_spellsNumber 70 = .ok (.dup, 1) := by decide +kernel
theorem dX10_spellsNumber_71 : decode cX10_spellsNumber 71 = .ok (.getfield 297, 3) := by decide +kernel
theorem dX10_spellsNumber_74 : decode cX10_spellsNumber 74 = .ok (.iconst 1, 1) := by decide +kernel
theorem dX10_spellsNumber_75 : decode cX10_spellsNumber 75 = .ok (.iadd, 1) := by decide +kernel
theorem dX10_spellsNumber_76 : decode cX10_spellsNumber 76 = .ok (.putfield 297, 3) := by decide +kernel
theorem dX10_spellsNumber_79 : decode cX10_spellsNumber 79 = .ok (.return_, 1) := by decide +kernel
theorem dX10_spellsLast_0 : decode cX10_spellsLast 0 = .ok (.aload_n 0, 1) := by decide +kernel
theorem dX10_spellsLast_1 : decode cX10_spellsLast 1 = .ok (.iload_n 1, 1) := by decide +kernel
theorem dX10_spellsLast_2 : decode cX10_spellsLast 2 = .ok (.invokevirtual 300, 3) := by decide +kernel
theorem dX10_spellsLast_5 : decode cX10_spellsLast 5 = .ok (.aload_n 0, 1) := by decide +kernel
theorem dX10_spellsLast_6 : decode cX10_spellsLast 6 = .ok (.getfield 44, 3) := by decide +kernel
theorem dX10_spellsLast_9 : decode cX10_spellsLast 9 = .ok (.aload_n 0, 1) := by decide +kernel
theorem dX10_spellsLast_10 : decode cX10_spellsLast 10 = .ok (.getfield 297, 3) := by decide +kernel
theorem dX10_spellsLast_13 : decode cX10_spellsLast 13 = .ok (.bipush 59, 2) := by decide +kernel
theorem dX10_spellsLast_15 : decode cX10_spellsLast 15 = .ok (.iastore, 1) := by decide +kernel
theorem dX10_spellsLast_16 : decode cX10_spellsLast 16 = .ok (.aload_n 0, 1) := by decide +kernel
theorem dX10_spellsLast_17 : decode cX10_spellsLast 17 = .ok (.dup, 1) := by decide +kernel
theorem dX10_spellsLast_18 : decode cX10_spellsLast 18 = .ok (.getfield 297, 3) := by decide +kernel
theorem dX10_spellsLast_21 : decode cX10_spellsLast 21 = .ok (.iconst 1, 1) := by decide +kernel
theorem dX10_spellsLast_22 : decode cX10_spellsLast 22 = .ok (.iadd, 1) := by decide +kernel
theorem dX10_spellsLast_23 : decode cX10_spellsLast 23 = .ok (.putfield 297, 3) := by decide +kernel
theorem dX10_spellsLast_26 : decode cX10_spellsLast 26 = .ok (.return_, 1) := by decide +kernel
theorem dX10_spellsOne_0 : decode cX10_spellsOne 0 = .ok (.aload_n 0, 1) := by decide +kernel
theorem dX10_spellsOne_1 : decode cX10_spellsOne 1 = .ok (.lload_n 1, 1) := by decide +kernel
theorem dX10_spellsOne_2 : decode cX10_spellsOne 2 = .ok (.invokevirtual 303, 3) := by decide +kernel
theorem dX10_spellsOne_5 : decode cX10_spellsOne 5 = .ok (.aload_n 0, 1) := by decide +kernel
theorem dX10_spellsOne_6 : decode cX10_spellsOne 6 = .ok (.iload_n 3, 1) := by decide +kernel
theorem dX10_spellsOne_7 : decode cX10_spellsOne 7 = .ok (.invokevirtual 307, 3) := by decide +kernel
theorem dX10_spellsOne_10 : decode cX10_spellsOne 10 = .ok (.return_, 1) := by decide +kernel
theorem dX10_spellsCell_0 : decode cX10_spellsCell 0 = .ok (.iload_n 1, 1) := by decide +kernel
theorem dX10_spellsCell_1 : decode cX10_spellsCell 1 = .ok (.iload_n 2, 1) := by decide +kernel
theorem dX10_spellsCell_2 : decode cX10_spellsCell 2 = .ok (.invokestatic 104, 3) := by decide +kernel
theorem dX10_spellsCell_5 : decode cX10_spellsCell 5 = .ok (.istore_n 3, 1) := by decide +kernel
theorem dX10_spellsCell_6 : decode cX10_spellsCell 6 = .ok (.aload_n 0, 1) := by decide +kernel
theorem dX10_spellsCell_7 : decode cX10_spellsCell 7 = .ok (.getfield 7, 3) := by decide +kernel
theorem dX10_spellsCell_10 : decode cX10_spellsCell 10 = .ok (.bipush 32, 2) := by decide +kernel
theorem dX10_spellsCell_12 : decode cX10_spellsCell 12 = .ok (.iload_n 3, 1) := by decide +kernel
theorem dX10_spellsCell_13 : decode cX10_spellsCell 13 = .ok (.iadd, 1) := by decide +kernel
theorem dX10_spellsCell_14 : decode cX10_spellsCell 14 = .ok (.iaload, 1) := by decide +kernel
theorem dX10_spellsCell_15 : decode cX10_spellsCell 15 = .ok (.aload_n 0, 1) := by decide +kernel
theorem dX10_spellsCell_16 : decode cX10_spellsCell 16 = .ok (.getfield 7, 3) := by decide +kernel
theorem dX10_spellsCell_19 : decode cX10_spellsCell 19 = .ok (.bipush 41, 2) := by decide +kernel
theorem dX10_spellsCell_21 : decode cX10_spellsCell 21 = .ok (.iload_n 3, 1) := by decide +kernel
theorem dX10_spellsCell_22 : decode cX10_spellsCell 22 = .ok (.iadd, 1) := by decide +kernel
theorem dX10_spellsCell_23 : decode cX10_spellsCell 23 = .ok (.iaload, 1) := by decide +kernel
theorem dX10_spellsCell_24 : decode cX10_spellsCell 24 = .ok (.iadd, 1) := by decide +kernel
theorem dX10_spellsCell_25 : decode cX10_spellsCell 25 = .ok (.aload_n 0, 1) := by decide +kernel
theorem dX10_spellsCell_26 : decode cX10_spellsCell 26 = .ok (.getfield 7, 3) := by decide +kernel
theorem dX10_spellsCell_29 : decode cX10_spellsCell 29 = .ok (.bipush 50, 2) := by decide +kernel
theorem dX10_spellsCell_31 : decode cX10_spellsCell 31 = .ok (.iload_n 3, 1) := by decide +kernel
theorem dX10_spellsCell_32 : decode cX10_spellsCell 32 = .ok (.iadd, 1) := by decide +kernel
theorem dX10_spellsCell_33 : decode cX10_spellsCell 33 = .ok (.iaload, 1) := by decide +kernel
theorem dX10_spellsCell_34 : decode cX10_spellsCell 34 = .ok (.iadd, 1) := by decide +kernel
theorem dX10_spellsCell_35 : decode cX10_spellsCell 35 = .ok (.ifCond .ne 4, 3) := by decide +kernel
theorem dX10_spellsCell_38 : decode cX10_spellsCell 38 = .ok (.return_, 1) := by decide +kernel
theorem dX10_spellsCell_39 : decode cX10_spellsCell 39 = .ok (.aload_n 0, 1) := by decide +kernel
theorem dX10_spellsCell_40 : decode cX10_spellsCell 40 = .ok (.ldc2_w 131, 3) := by decide +kernel
theorem dX10_spellsCell_43 : decode cX10_spellsCell 43 = .ok (.invokevirtual 303, 3) := by decide +kernel
theorem dX10_spellsCell_46 : decode cX10_spellsCell 46 = .ok (.aload_n 0, 1) := by decide +kernel
theorem dX10_spellsCell_47 : decode cX10_spellsCell 47 = .ok (.iload_n 1, 1) := by decide +kernel
theorem dX10_spellsCell_48 : decode cX10_spellsCell 48 = .ok (.invokevirtual 300, 3) := by decide +kernel
theorem dX10_spellsCell_51 : decode cX10_spellsCell 51 = .ok (.aload_n 0, 1) := by decide +kernel
theorem dX10_spellsCell_52 : decode cX10_spellsCell 52 = .ok (.iload_n 2, 1) := by decide +kernel
theorem dX10_spellsCell_53 : decode cX10_spellsCell 53 = .ok (.invokevirtual 300, 3) := by decide +kernel
theorem dX10_spellsCell_56 : decode cX10_spellsCell 56 = .ok (.aload_n 0, 1) := by decide +kernel
theorem dX10_spellsCell_57 : decode cX10_spellsCell 57 = .ok (.aload_n 0, 1) := by decide +kernel
theorem dX10_spellsCell_58 : decode cX10_spellsCell 58 = .ok (.getfield 7, 3) := by decide +kernel
theorem dX10_spellsCell_61 : decode cX10_spellsCell 61 = .ok (.bipush 32, 2) := by decide +kernel
theorem dX10_spellsCell_63 : decode cX10_spellsCell 63 = .ok (.iload_n 3, 1) := by decide +kernel
theorem dX10_spellsCell_64 : decode cX10_spellsCell 64 = .ok (.iadd, 1) := by decide +kernel
theorem dX10_spellsCell_65 : decode cX10_spellsCell 65 = .ok (.iaload, 1) := by decide +kernel
theorem dX10_spellsCell_66 : decode cX10_spellsCell 66 = .ok (.invokevirtual 300, 3) := by decide +kernel
theorem dX10_spellsCell_69 : decode cX10_spellsCell 69 = .ok (.aload_n 0, 1) := by decide +kernel
theorem dX10_spellsCell_70 : decode cX10_spellsCell 70 = .ok (.aload_n 0, 1) := by decide +kernel
theorem dX10_spellsCell_71 : decode cX10_spellsCell 71 = .ok (.getfield 7, 3) := by decide +kernel
theorem dX10_spellsCell_74 : decode cX10_spellsCell 74 = .ok (.bipush 41, 2) := by decide +kernel
theorem dX10_spellsCell_76 : decode cX10_spellsCell 76 = .ok (.iload_n 3, 1) := by decide +kernel
theorem dX10_spellsCell_77 : decode cX10_spellsCell 77 = .ok (.iadd, 1) := by decide +kernel
theorem dX10_spellsCell_78 : decode cX10_spellsCell 78 = .ok (.iaload, 1) := by decide +kernel
theorem dX10_spellsCell_79 : decode cX10_spellsCell 79 = .ok (.invokevirtual 300, 3) := by decide +kernel
theorem dX10_spellsCell_82 : decode cX10_spellsCell 82 = .ok (.aload_n 0, 1) := by decide +kernel
theorem dX10_spellsCell_83 : decode cX10_spellsCell 83 = .ok (.aload_n 0, 1) := by decide +kernel
theorem dX10_spellsCell_84 : decode cX10_spellsCell 84 = .ok (.getfield 7, 3) := by decide +kernel
theorem dX10_spellsCell_87 : decode cX10_spellsCell 87 = .ok (.bipush 50, 2) := by decide +kernel
theorem dX10_spellsCell_89 : decode cX10_spellsCell 89 = .ok (.iload_n 3, 1) := by decide +kernel
theorem dX10_spellsCell_90 : decode cX10_spellsCell 90 = .ok (.iadd, 1) := by decide +kernel
theorem dX10_spellsCell_91 : decode cX10_spellsCell 91 = .ok (.iaload, 1) := by decide +kernel
theorem dX10_spellsCell_92 : decode cX10_spellsCell 92 = .ok (.invokevirtual 307, 3) := by decide +kernel
theorem dX10_spellsCell_95 : decode cX10_spellsCell 95 = .ok (.return_, 1) := by decide +kernel
theorem dX10_spellsAll_0 : decode cX10_spellsAll 0 = .ok (.aload_n 0, 1) := by decide +kernel
theorem dX10_spellsAll_1 : decode cX10_spellsAll 1 = .ok (.iconst 0, 1) := by decide +kernel
theorem dX10_spellsAll_2 : decode cX10_spellsAll 2 = .ok (.putfield 297, 3) := by decide +kernel
theorem dX10_spellsAll_5 : decode cX10_spellsAll 5 = .ok (.aload_n 0, 1) := by decide +kernel
theorem dX10_spellsAll_6 : decode cX10_spellsAll 6 = .ok (.ldc2_w 107, 3) := by decide +kernel
theorem dX10_spellsAll_9 : decode cX10_spellsAll 9 = .ok (.aload_n 0, 1) := by decide +kernel
theorem dX10_spellsAll_10 : decode cX10_spellsAll 10 = .ok (.getfield 7, 3) := by decide +kernel
theorem dX10_spellsAll_13 : decode cX10_spellsAll 13 = .ok (.iconst 2, 1) := by decide +kernel
theorem dX10_spellsAll_14 : decode cX10_spellsAll 14 = .ok (.iaload, 1) := by decide +kernel
theorem dX10_spellsAll_15 : decode cX10_spellsAll 15 = .ok (.invokevirtual 310, 3) := by decide +kernel
theorem dX10_spellsAll_18 : decode cX10_spellsAll 18 = .ok (.aload_n 0, 1) := by decide +kernel
theorem dX10_spellsAll_19 : decode cX10_spellsAll 19 = .ok (.ldc2_w 117, 3) := by decide +kernel
theorem dX10_spellsAll_22 : decode cX10_spellsAll 22 = .ok (.aload_n 0, 1) := by decide +kernel
theorem dX10_spellsAll_23 : decode cX10_spellsAll 23 = .ok (.getfield 7, 3) := by decide +kernel
theorem dX10_spellsAll_26 : decode cX10_spellsAll 26 = .ok (.iconst 3, 1) := by decide +kernel
theorem dX10_spellsAll_27 : decode cX10_spellsAll 27 = .ok (.iaload, 1) := by decide +kernel
theorem dX10_spellsAll_28 : decode cX10_spellsAll 28 = .ok (.invokevirtual 310, 3) := by decide +kernel
theorem dX10_spellsAll_31 : decode cX10_spellsAll 31 = .ok (.aload_n 0, 1) := by decide +kernel
theorem dX10_spellsAll_32 : decode cX10_spellsAll 32 = .ok (.ldc2_w 119, 3) := by decide +kernel
theorem dX10_spellsAll_35 : decode cX10_spellsAll 35 = .ok (.aload_n 0, 1) := by decide +kernel
theorem dX10_spellsAll_36 : decode cX10_spellsAll 36 = .ok (.getfield 7, 3) := by decide +kernel
theorem dX10_spellsAll_39 : decode cX10_spellsAll 39 = .ok (.iconst 4, 1) := by decide +kernel
theorem dX10_spellsAll_40 : decode cX10_spellsAll 40 = .ok (.iaload, 1) := by decide +kernel
theorem dX10_spellsAll_41 : decode cX10_spellsAll 41 = .ok (.invokevirtual 310, 3) := by decide +kernel
theorem dX10_spellsAll_44 : decode cX10_spellsAll 44 = .ok (.iconst 0, 1) := by decide +kernel
theorem dX10_spellsAll_45 : decode cX10_spellsAll 45 = .ok (.istore_n 1, 1) := by decide +kernel
theorem dX10_spellsAll_46 : decode cX10_spellsAll 46 = .ok (.iload_n 1, 1) := by decide +kernel
theorem dX10_spellsAll_47 : decode cX10_spellsAll 47 = .ok (.aload_n 0, 1) := by decide +kernel
theorem dX10_spellsAll_48 : decode cX10_spellsAll 48 = .ok (.getfield 7, 3) := by decide +kernel
theorem dX10_spellsAll_51 : decode cX10_spellsAll 51 = .ok (.iconst 0, 1) := by decide +kernel
theorem dX10_spellsAll_52 : decode cX10_spellsAll 52 = .ok (.iaload, 1) := by decide +kernel
theorem dX10_spellsAll_53 : decode cX10_spellsAll 53 = .ok (.if_icmp .ge 55, 3) := by decide +kernel
theorem dX10_spellsAll_56 : decode cX10_spellsAll 56 = .ok (.aload_n 0, 1) := by decide +kernel
theorem dX10_spellsAll_57 : decode cX10_spellsAll 57 = .ok (.ldc2_w 121, 3) := by decide +kernel
theorem dX10_spellsAll_60 : decode cX10_spellsAll 60 = .ok (.invokevirtual 303, 3) := by decide +kernel
theorem dX10_spellsAll_63 : decode cX10_spellsAll 63 = .ok (.aload_n 0, 1) := by decide +kernel
theorem dX10_spellsAll_64 : decode cX10_spellsAll 64 = .ok (.aload_n 0, 1) := by decide +kernel
theorem dX10_spellsAll_65 : decode cX10_spellsAll 65 = .ok (.getfield 7, 3) := by decide +kernel
theorem dX10_spellsAll_68 : decode cX10_spellsAll 68 = .ok (.bipush 20, 2) := by decide +kernel
theorem dX10_spellsAll_70 : decode cX10_spellsAll 70 = .ok (.iload_n 1, 1) := by decide +kernel
theorem dX10_spellsAll_71 : decode cX10_spellsAll 71 = .ok (.iadd, 1) := by decide +kernel
theorem dX10_spellsAll_72 : decode cX10_spellsAll 72 = .ok (.iaload, 1) := by decide +kernel
theorem dX10_spellsAll_73 : decode cX10_spellsAll 73 = .ok (.invokevirtual 300, 3) := by decide +kernel
theorem dX10_spellsAll_76 : decode cX10_spellsAll 76 = .ok (.aload_n 0, 1) := by decide +kernel
theorem dX10_spellsAll_77 : decode cX10_spellsAll 77 = .ok (.aload_n 0, 1) := by decide +kernel
theorem dX10_spellsAll_78 : decode cX10_spellsAll 78 = .ok (.getfield 7, 3) := by decide +kernel
theorem dX10_spellsAll_81 : decode cX10_spellsAll 81 = .ok (.bipush 23, 2) := by decide +kernel
theorem dX10_spellsAll_83 : decode cX10_spellsAll 83 = .ok (.iload_n 1, 1) := by decide +kernel
theorem dX10_spellsAll_84 : decode cX10_spellsAll 84 = .ok (.iadd, 1) := by decide +kernel
theorem dX10_spellsAll_85 : decode cX10_spellsAll 85 = .ok (.iaload, 1) := by decide +kernel
theorem dX10_spellsAll_86 : decode cX10_spellsAll 86 = .ok (.invokevirtual 300, 3) := by decide +kernel
theorem dX10_spellsAll_89 : decode cX10_spellsAll 89 = .ok (.aload_n 0, 1) := by decide +kernel
theorem dX10_spellsAll_90 : decode cX10_spellsAll 90 = .ok (.aload_n 0, 1) := by decide +kernel
theorem dX10_spellsAll_91 : decode cX10_spellsAll 91 = .ok (.getfield 7, 3) := by decide +kernel
theorem dX10_spellsAll_94 : decode cX10_spellsAll 94 = .ok (.bipush 26, 2) := by decide +kernel
theorem dX10_spellsAll_96 : decode cX10_spellsAll 96 = .ok (.iload_n 1, 1) := by decide +kernel
theorem dX10_spellsAll_97 : decode cX10_spellsAll 97 = .ok (.iadd, 1) := by decide +kernel
theorem dX10_spellsAll_98 : decode cX10_spellsAll 98 = .ok (.iaload, 1) := by decide +kernel
theorem dX10_spellsAll_99 : decode cX10_spellsAll 99 = .ok (.invokevirtual 307, 3) := by decide +kernel
theorem dX10_spellsAll_102 : decode cX10_spellsAll 102 = .ok (.iinc 1 1, 3) := by decide +kernel
theorem dX10_spellsAll_105 : decode cX10_spellsAll 105 = .ok (.goto (-59), 3) := by decide +kernel
theorem dX10_spellsAll_108 : decode cX10_spellsAll 108 = .ok (.iconst 0, 1) := by decide +kernel
theorem dX10_spellsAll_109 : decode cX10_spellsAll 109 = .ok (.istore_n 1, 1) := by decide +kernel
theorem dX10_spellsAll_110 : decode cX10_spellsAll 110 = .ok (.iload_n 1, 1) := by decide +kernel
theorem dX10_spellsAll_111 : decode cX10_spellsAll 111 = .ok (.aload_n 0, 1) := by decide +kernel
theorem dX10_spellsAll_112 : decode cX10_spellsAll 112 = .ok (.getfield 7, 3) := by decide +kernel
theorem dX10_spellsAll_115 : decode cX10_spellsAll 115 = .ok (.iconst 1, 1) := by decide +kernel
theorem dX10_spellsAll_116 : decode cX10_spellsAll 116 = .ok (.iaload, 1) := by decide +kernel
theorem dX10_spellsAll_117 : decode cX10_spellsAll 117 = .ok (.if_icmp .ge 25, 3) := by decide +kernel
theorem dX10_spellsAll_120 : decode cX10_spellsAll 120 = .ok (.aload_n 0, 1) := by decide +kernel
theorem dX10_spellsAll_121 : decode cX10_spellsAll 121 = .ok (.ldc2_w 126, 3) := by decide +kernel
theorem dX10_spellsAll_124 : decode cX10_spellsAll 124 = .ok (.aload_n 0, 1) := by decide +kernel
theorem dX10_spellsAll_125 : decode cX10_spellsAll 125 = .ok (.getfield 7, 3) := by decide +kernel
theorem dX10_spellsAll_128 : decode cX10_spellsAll 128 = .ok (.bipush 29, 2) := by decide +kernel
theorem dX10_spellsAll_130 : decode cX10_spellsAll 130 = .ok (.iload_n 1, 1) := by decide +kernel
theorem dX10_spellsAll_131 : decode cX10_spellsAll 131 = .ok (.iadd, 1) := by decide +kernel
theorem dX10_spellsAll_132 : decode cX10_spellsAll 132 = .ok (.iaload, 1) := by decide +kernel
theorem dX10_spellsAll_133 : decode cX10_spellsAll 133 = .ok (.invokevirtual 310, 3) := by decide +kernel
theorem dX10_spellsAll_136 : decode cX10_spellsAll 136 = .ok (.iinc 1 1, 3) := by decide +kernel
theorem dX10_spellsAll_139 : decode cX10_spellsAll 139 = .ok (.goto (-29), 3) := by decide +kernel
theorem dX10_spellsAll_142 : decode cX10_spellsAll 142 = .ok (.iconst 0, 1) := by decide +kernel
theorem dX10_spellsAll_143 : decode cX10_spellsAll 143 = .ok (.istore_n 1, 1) := by decide +kernel
theorem dX10_spellsAll_144 : decode cX10_spellsAll 144 = .ok (.iload_n 1, 1) := by decide +kernel
theorem dX10_spellsAll_145 : decode cX10_spellsAll 145 = .ok (.aload_n 0, 1) := by decide +kernel
theorem dX10_spellsAll_146 : decode cX10_spellsAll 146 = .ok (.getfield 7, 3) := by decide +kernel
theorem dX10_spellsAll_149 : decode cX10_spellsAll 149 = .ok (.iconst 1, 1) := by decide +kernel
theorem dX10_spellsAll_150 : decode cX10_spellsAll 150 = .ok (.iaload, 1) := by decide +kernel
theorem dX10_spellsAll_151 : decode cX10_spellsAll 151 = .ok (.if_icmp .ge 33, 3) := by decide +kernel
theorem dX10_spellsAll_154 : decode cX10_spellsAll 154 = .ok (.iconst 0, 1) := by decide +kernel
theorem dX10_spellsAll_155 : decode cX10_spellsAll 155 = .ok (.istore_n 2, 1) := by decide +kernel
theorem dX10_spellsAll_156 : decode cX10_spellsAll 156 = .ok (.iload_n 2, 1) := by decide +kernel
theorem dX10_spellsAll_157 : decode cX10_spellsAll 157 = .ok (.aload_n 0, 1) := by decide +kernel
theorem dX10_spellsAll_158 : decode cX10_spellsAll 158 = .ok (.getfield 7, 3) := by decide +kernel
theorem dX10_spellsAll_161 : decode cX10_spellsAll 161 = .ok (.iconst 0, 1) := by decide +kernel
theorem dX10_spellsAll_162 : decode cX10_spellsAll 162 = .ok (.iaload, 1) := by decide +kernel
theorem dX10_spellsAll_163 : decode cX10_spellsAll 163 = .ok (.if_icmp .ge 15, 3) := by decide +kernel
theorem dX10_spellsAll_166 : decode cX10_spellsAll 166 = .ok (.aload_n 0, 1) := by decide +kernel
theorem dX10_spellsAll_167 : decode cX10_spellsAll 167 = .ok (.iload_n 1, 1) := by decide +kernel
theorem dX10_spellsAll_168 : decode cX10_spellsAll 168 = .ok (.iload_n 2, 1) := by decide +kernel
theorem dX10_spellsAll_169 : decode cX10_spellsAll 169 = .ok (.invokevirtual 314, 3) := by decide +kernel
theorem dX10_spellsAll_172 : decode cX10_spellsAll 172 = .ok (.iinc 2 1, 3) := by decide +kernel
theorem dX10_spellsAll_175 : decode cX10_spellsAll 175 = .ok (.goto (-19), 3) := by decide +kernel
theorem dX10_spellsAll_178 : decode cX10_spellsAll 178 = .ok (.iinc 1 1, 3) := by decide +kernel
theorem dX10_spellsAll_181 : decode cX10_spellsAll 181 = .ok (.goto (-37), 3) := by decide +kernel
theorem dX10_spellsAll_184 : decode cX10_spellsAll 184 = .ok (.iconst 0, 1) := by decide +kernel
theorem dX10_spellsAll_185 : decode cX10_spellsAll 185 = .ok (.istore_n 1, 1) := by decide +kernel
theorem dX10_spellsAll_186 : decode cX10_spellsAll 186 = .ok (.iload_n 1, 1) := by decide +kernel
theorem dX10_spellsAll_187 : decode cX10_spellsAll 187 = .ok (.aload_n 0, 1) := by decide +kernel
theorem dX10_spellsAll_188 : decode cX10_spellsAll 188 = .ok (.getfield 7, 3) := by decide +kernel
theorem dX10_spellsAll_191 : decode cX10_spellsAll 191 = .ok (.iconst 0, 1) := by decide +kernel
theorem dX10_spellsAll_192 : decode cX10_spellsAll 192 = .ok (.iaload, 1) := by decide +kernel
theorem dX10_spellsAll_193 : decode cX10_spellsAll 193 = .ok (.if_icmp .ge 46, 3) := by decide +kernel
theorem dX10_spellsAll_196 : decode cX10_spellsAll 196 = .ok (.aload_n 0, 1) := by decide +kernel
theorem dX10_spellsAll_197 : decode cX10_spellsAll 197 = .ok (.getfield 7, 3) := by decide +kernel
theorem dX10_spellsAll_200 : decode cX10_spellsAll 200 = .ok (.bipush 59, 2) := by decide +kernel
theorem dX10_spellsAll_202 : decode cX10_spellsAll 202 = .ok (.iload_n 1, 1) := by decide +kernel
theorem dX10_spellsAll_203 : decode cX10_spellsAll 203 = .ok (.iadd, 1) := by decide +kernel
theorem dX10_spellsAll_204 : decode cX10_spellsAll 204 = .ok (.iaload, 1) := by decide +kernel
theorem dX10_spellsAll_205 : decode cX10_spellsAll 205 = .ok (.ifCond .le 28, 3) := by decide +kernel
theorem dX10_spellsAll_208 : decode cX10_spellsAll 208 = .ok (.aload_n 0, 1) := by decide +kernel
theorem dX10_spellsAll_209 : decode cX10_spellsAll 209 = .ok (.ldc2_w 136, 3) := by decide +kernel
theorem dX10_spellsAll_212 : decode cX10_spellsAll 212 = .ok (.invokevirtual 303, 3) := by decide +kernel
theorem dX10_spellsAll_215 : decode cX10_spellsAll 215 = .ok (.aload_n 0, 1) := by decide +kernel
theorem dX10_spellsAll_216 : decode cX10_spellsAll 216 = .ok (.iload_n 1, 1) := by decide +kernel
theorem dX10_spellsAll_217 : decode cX10_spellsAll 217 = .ok (.invokevirtual 300, 3) := by decide +kernel
theorem dX10_spellsAll_220 : decode cX10_spellsAll 220 = .ok (.aload_n 0, 1) := by decide +kernel
theorem dX10_spellsAll_221 : decode cX10_spellsAll 221 = .ok (.aload_n 0, 1) := by decide +kernel
theorem dX10_spellsAll_222 : decode cX10_spellsAll 222 = .ok (.getfield 7, 3) := by decide +kernel
theorem dX10_spellsAll_225 : decode cX10_spellsAll 225 = .ok (.bipush 59, 2) := by decide +kernel
theorem dX10_spellsAll_227 : decode cX10_spellsAll 227 = .ok (.iload_n 1, 1) := by decide +kernel
theorem dX10_spellsAll_228 : decode cX10_spellsAll 228 = .ok (.iadd, 1) := by decide +kernel
theorem dX10_spellsAll_229 : decode cX10_spellsAll 229 = .ok (.iaload, 1) := by decide +kernel
theorem dX10_spellsAll_230 : decode cX10_spellsAll 230 = .ok (.invokevirtual 307, 3) := by decide +kernel
theorem dX10_spellsAll_233 : decode cX10_spellsAll 233 = .ok (.iinc 1 1, 3) := by decide +kernel
theorem dX10_spellsAll_236 : decode cX10_spellsAll 236 = .ok (.goto (-50), 3) := by decide +kernel
theorem dX10_spellsAll_239 : decode cX10_spellsAll 239 = .ok (.return_, 1) := by decide +kernel
theorem dX10_spell_0 : decode cX10_spell 0 = .ok (.iload_n 1, 1) := by decide +kernel
theorem dX10_spell_1 : decode cX10_spell 1 = .ok (.iconst (-1), 1) := by decide +kernel
theorem dX10_spell_2 : decode cX10_spell 2 = .ok (.if_icmp .ge 5, 3) := by decide +kernel
theorem dX10_spell_5 : decode cX10_spell 5 = .ok (.iconst (-1), 1) := by decide +kernel
theorem dX10_spell_6 : decode cX10_spell 6 = .ok (.ireturn, 1) := by decide +kernel
theorem dX10_spell_7 : decode cX10_spell 7 = .ok (.aload_n 0, 1) := by decide +kernel
theorem dX10_spell_8 : decode cX10_spell 8 = .ok (.invokevirtual 317, 3) := by decide +kernel
theorem dX10_spell_11 : decode cX10_spell 11 = .ok (.iload_n 1, 1) := by decide +kernel
theorem dX10_spell_12 : decode cX10_spell 12 = .ok (.iconst (-1), 1) := by decide +kernel
theorem dX10_spell_13 : decode cX10_spell 13 = .ok (.if_icmp .ne 10, 3) := by decide +kernel
theorem dX10_spell_16 : decode cX10_spell 16 = .ok (.aload_n 0, 1) := by decide +kernel
theorem dX10_spell_17 : decode cX10_spell 17 = .ok (.getfield 297, 3) := by decide +kernel
theorem dX10_spell_20 : decode cX10_spell 20 = .ok (.goto 22, 3) := by decide +kernel
theorem dX10_spell_23 : decode cX10_spell 23 = .ok (.iload_n 1, 1) := by decide +kernel
theorem dX10_spell_24 : decode cX10_spell 24 = .ok (.aload_n 0, 1) := by decide +kernel
theorem dX10_spell_25 : decode cX10_spell 25 = .ok (.getfield 297, 3) := by decide +kernel
theorem dX10_spell_28 : decode cX10_spell 28 = .ok (.if_icmp .ge 12, 3) := by decide +kernel
theorem dX10_spell_31 : decode cX10_spell 31 = .ok (.aload_n 0, 1) := by decide +kernel
theorem dX10_spell_32 : decode cX10_spell 32 = .ok (.getfield 44, 3) := by decide +kernel
theorem dX10_spell_35 : decode cX10_spell 35 = .ok (.iload_n 1, 1) := by decide +kernel
theorem dX10_spell_36 : decode cX10_spell 36 = .ok (.iaload, 1) := by decide +kernel
theorem dX10_spell_37 : decode cX10_spell 37 = .ok (.goto 5, 3) := by decide +kernel
theorem dX10_spell_40 : decode cX10_spell 40 = .ok (.bipush (-2), 2) := by decide +kernel
theorem dX10_spell_42 : decode cX10_spell 42 = .ok (.ireturn, 1) := by decide +kernel
theorem dX10_sumOf_0 : decode cX10_sumOf 0 = .ok (.iconst 0, 1) := by decide +kernel
theorem dX10_sumOf_1 : decode cX10_sumOf 1 = .ok (.istore_n 3, 1) := by decide +kernel
theorem dX10_sumOf_2 : decode cX10_sumOf 2 = .ok (.iconst 0, 1) := by decide +kernel
theorem dX10_sumOf_3 : decode cX10_sumOf 3 = .ok (.istore 4, 2) := by decide +kernel
theorem dX10_sumOf_5 : decode cX10_sumOf 5 = .ok (.iload 4, 2) := by decide +kernel
theorem dX10_sumOf_7 : decode cX10_sumOf 7 = .ok (.iload_n 2, 1) := by decide +kernel
theorem dX10_sumOf_8 : decode cX10_sumOf 8 = .ok (.if_icmp .ge 21, 3) := by decide +kernel
theorem dX10_sumOf_11 : decode cX10_sumOf 11 = .ok (.iload_n 3, 1) := by decide +kernel
theorem dX10_sumOf_12 : decode cX10_sumOf 12 = .ok (.aload_n 0, 1) := by decide +kernel
theorem dX10_sumOf_13 : decode cX10_sumOf 13 = .ok (.getfield 7, 3) := by decide +kernel
theorem dX10_sumOf_16 : decode cX10_sumOf 16 = .ok (.iload_n 1, 1) := by decide +kernel
theorem dX10_sumOf_17 : decode cX10_sumOf 17 = .ok (.iload 4, 2) := by decide +kernel
theorem dX10_sumOf_19 : decode cX10_sumOf 19 = .ok (.iadd, 1) := by decide +kernel
theorem dX10_sumOf_20 : decode cX10_sumOf 20 = .ok (.iaload, 1) := by decide +kernel
theorem dX10_sumOf_21 : decode cX10_sumOf 21 = .ok (.iadd, 1) := by decide +kernel
theorem dX10_sumOf_22 : decode cX10_sumOf 22 = .ok (.istore_n 3, 1) := by decide +kernel
theorem dX10_sumOf_23 : decode cX10_sumOf 23 = .ok (.iinc 4 1, 3) := by decide +kernel
theorem dX10_sumOf_26 : decode cX10_sumOf 26 = .ok (.goto (-21), 3) := by decide +kernel
theorem dX10_sumOf_29 : decode cX10_sumOf 29 = .ok (.iload_n 3, 1) := by decide +kernel
theorem dX10_sumOf_30 : decode cX10_sumOf 30 = .ok (.ireturn, 1) := by decide +kernel
theorem dX10_count_0 : decode cX10_count 0 = .ok (.iload_n 1, 1) := by decide +kernel
theorem dX10_count_1 : decode cX10_count 1 = .ok (.tableswitch 126 0 9 #[55, 62, 69, 76, 83, 90, 95, 100, 109, 118], 55) := by decide +kernel
theorem dX10_count_56 : decode cX10_count 56 = .ok (.aload_n 0, 1) := by decide +kernel
theorem dX10_count_57 : decode cX10_count 57 = .ok (.getfield 7, 3) := by decide +kernel
theorem dX10_count_60 : decode cX10_count 60 = .ok (.iconst 0, 1) := by decide +kernel
theorem dX10_count_61 : decode cX10_count 61 = .ok (.iaload, 1) := by decide +kernel
theorem dX10_count_62 : decode cX10_count 62 = .ok (.ireturn, 1) := by decide +kernel
theorem dX10_count_63 : decode cX10_count 63 = .ok (.aload_n 0, 1) := by decide +kernel
theorem dX10_count_64 : decode cX10_count 64 = .ok (.getfield 7, 3) := by decide +kernel
theorem dX10_count_67 : decode cX10_count 67 = .ok (.iconst 1, 1) := by decide +kernel
theorem dX10_count_68 : decode cX10_count 68 = .ok (.iaload, 1) := by decide +kernel
theorem dX10_count_69 : decode cX10_count 69 = .ok (.ireturn, 1) := by decide +kernel
theorem dX10_count_70 : decode cX10_count 70 = .ok (.aload_n 0, 1) := by decide +kernel
theorem dX10_count_71 : decode cX10_count 71 = .ok (.getfield 7, 3) := by decide +kernel
theorem dX10_count_74 : decode cX10_count 74 = .ok (.iconst 2, 1) := by decide +kernel
theorem dX10_count_75 : decode cX10_count 75 = .ok (.iaload, 1) := by decide +kernel
theorem dX10_count_76 : decode cX10_count 76 = .ok (.ireturn, 1) := by decide +kernel
theorem dX10_count_77 : decode cX10_count 77 = .ok (.aload_n 0, 1) := by decide +kernel
theorem dX10_count_78 : decode cX10_count 78 = .ok (.getfield 7, 3) := by decide +kernel
theorem dX10_count_81 : decode cX10_count 81 = .ok (.iconst 3, 1) := by decide +kernel
theorem dX10_count_82 : decode cX10_count 82 = .ok (.iaload, 1) := by decide +kernel
theorem dX10_count_83 : decode cX10_count 83 = .ok (.ireturn, 1) := by decide +kernel
theorem dX10_count_84 : decode cX10_count 84 = .ok (.aload_n 0, 1) := by decide +kernel
theorem dX10_count_85 : decode cX10_count 85 = .ok (.getfield 7, 3) := by decide +kernel
theorem dX10_count_88 : decode cX10_count 88 = .ok (.iconst 4, 1) := by decide +kernel
theorem dX10_count_89 : decode cX10_count 89 = .ok (.iaload, 1) := by decide +kernel
theorem dX10_count_90 : decode cX10_count 90 = .ok (.ireturn, 1) := by decide +kernel
theorem dX10_count_91 : decode cX10_count 91 = .ok (.aload_n 0, 1) := by decide +kernel
theorem dX10_count_92 : decode cX10_count 92 = .ok (.getfield 153, 3) := by decide +kernel
theorem dX10_count_95 : decode cX10_count 95 = .ok (.ireturn, 1) := by decide +kernel
theorem dX10_count_96 : decode cX10_count 96 = .ok (.aload_n 0, 1) := by decide +kernel
theorem dX10_count_97 : decode cX10_count 97 = .ok (.getfield 62, 3) := by decide +kernel
theorem dX10_count_100 : decode cX10_count 100 = .ok (.ireturn, 1) := by decide +kernel
theorem dX10_count_101 : decode cX10_count 101 = .ok (.aload_n 0, 1) := by decide +kernel
theorem dX10_count_102 : decode cX10_count 102 = .ok (.bipush 32, 2) := by decide +kernel
theorem dX10_count_104 : decode cX10_count 104 = .ok (.bipush 9, 2) := by decide +kernel
theorem dX10_count_106 : decode cX10_count 106 = .ok (.invokevirtual 320, 3) := by decide +kernel
theorem dX10_count_109 : decode cX10_count 109 = .ok (.ireturn, 1) := by decide +kernel
theorem dX10_count_110 : decode cX10_count 110 = .ok (.aload_n 0, 1) := by decide +kernel
theorem dX10_count_111 : decode cX10_count 111 = .ok (.bipush 50, 2) := by decide +kernel
theorem dX10_count_113 : decode cX10_count 113 = .ok (.bipush 9, 2) := by decide +kernel
theorem dX10_count_115 : decode cX10_count 115 = .ok (.invokevirtual 320, 3) := by decide +kernel
theorem dX10_count_118 : decode cX10_count 118 = .ok (.ireturn, 1) := by decide +kernel
theorem dX10_count_119 : decode cX10_count 119 = .ok (.aload_n 0, 1) := by decide +kernel
theorem dX10_count_120 : decode cX10_count 120 = .ok (.getfield 7, 3) := by decide +kernel
theorem dX10_count_123 : decode cX10_count 123 = .ok (.bipush 13, 2) := by decide +kernel
theorem dX10_count_125 : decode cX10_count 125 = .ok (.iaload, 1) := by decide +kernel
theorem dX10_count_126 : decode cX10_count 126 = .ok (.ireturn, 1) := by decide +kernel
theorem dX10_count_127 : decode cX10_count 127 = .ok (.iconst (-1), 1) := by decide +kernel
theorem dX10_count_128 : decode cX10_count 128 = .ok (.ireturn, 1) := by decide +kernel
