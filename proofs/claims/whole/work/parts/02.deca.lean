theorem dX0_init_0 : decode cX0_init 0 = .ok (.aload_n 0, 1) := by decide +kernel
theorem dX0_init_1 : decode cX0_init 1 = .ok (.invokespecial 3, 3) := by decide +kernel
theorem dX0_init_4 : decode cX0_init 4 = .ok (.aload_n 0, 1) := by decide +kernel
theorem dX0_init_5 : decode cX0_init 5 = .ok (.bipush 12, 2) := by decide +kernel
theorem dX0_init_7 : decode cX0_init 7 = .ok (.anewarray 9, 3) := by decide +kernel
theorem dX0_init_10 : decode cX0_init 10 = .ok (.putfield 11, 3) := by decide +kernel
theorem dX0_init_13 : decode cX0_init 13 = .ok (.aload_n 0, 1) := by decide +kernel
theorem dX0_init_14 : decode cX0_init 14 = .ok (.iconst 0, 1) := by decide +kernel
theorem dX0_init_15 : decode cX0_init 15 = .ok (.putfield 17, 3) := by decide +kernel
theorem dX0_init_18 : decode cX0_init 18 = .ok (.aload_n 0, 1) := by decide +kernel
theorem dX0_init_19 : decode cX0_init 19 = .ok (.iconst 0, 1) := by decide +kernel
theorem dX0_init_20 : decode cX0_init 20 = .ok (.putfield 21, 3) := by decide +kernel
theorem dX0_init_23 : decode cX0_init 23 = .ok (.iconst 0, 1) := by decide +kernel
theorem dX0_init_24 : decode cX0_init 24 = .ok (.istore_n 1, 1) := by decide +kernel
theorem dX0_init_25 : decode cX0_init 25 = .ok (.iload_n 1, 1) := by decide +kernel
theorem dX0_init_26 : decode cX0_init 26 = .ok (.bipush 12, 2) := by decide +kernel
theorem dX0_init_28 : decode cX0_init 28 = .ok (.if_icmp .ge 22, 3) := by decide +kernel
theorem dX0_init_31 : decode cX0_init 31 = .ok (.aload_n 0, 1) := by decide +kernel
theorem dX0_init_32 : decode cX0_init 32 = .ok (.getfield 11, 3) := by decide +kernel
theorem dX0_init_35 : decode cX0_init 35 = .ok (.iload_n 1, 1) := by decide +kernel
theorem dX0_init_36 : decode cX0_init 36 = .ok (.new 9, 3) := by decide +kernel
theorem dX0_init_39 : decode cX0_init 39 = .ok (.dup, 1) := by decide +kernel
theorem dX0_init_40 : decode cX0_init 40 = .ok (.invokespecial 24, 3) := by decide +kernel
theorem dX0_init_43 : decode cX0_init 43 = .ok (.aastore, 1) := by decide +kernel
theorem dX0_init_44 : decode cX0_init 44 = .ok (.iinc 1 1, 3) := by decide +kernel
theorem dX0_init_47 : decode cX0_init 47 = .ok (.goto (-22), 3) := by decide +kernel
theorem dX0_init_50 : decode cX0_init 50 = .ok (.return_, 1) := by decide +kernel
theorem dX0_remember_0 : decode cX0_remember 0 = .ok (.aload_n 0, 1) := by decide +kernel
theorem dX0_remember_1 : decode cX0_remember 1 = .ok (.getfield 11, 3) := by decide +kernel
theorem dX0_remember_4 : decode cX0_remember 4 = .ok (.aload_n 0, 1) := by decide +kernel
theorem dX0_remember_5 : decode cX0_remember 5 = .ok (.getfield 17, 3) := by decide +kernel
theorem dX0_remember_8 : decode cX0_remember 8 = .ok (.aaload, 1) := by decide +kernel
theorem dX0_remember_9 : decode cX0_remember 9 = .ok (.astore_n 2, 1) := by decide +kernel
theorem dX0_remember_10 : decode cX0_remember 10 = .ok (.aload_n 2, 1) := by decide +kernel
theorem dX0_remember_11 : decode cX0_remember 11 = .ok (.ifnull 8, 3) := by decide +kernel
theorem dX0_remember_14 : decode cX0_remember 14 = .ok (.aload_n 2, 1) := by decide +kernel
theorem dX0_remember_15 : decode cX0_remember 15 = .ok (.aload_n 1, 1) := by decide +kernel
theorem dX0_remember_16 : decode cX0_remember 16 = .ok (.invokevirtual 25, 3) := by decide +kernel
theorem dX0_remember_19 : decode cX0_remember 19 = .ok (.aload_n 0, 1) := by decide +kernel
theorem dX0_remember_20 : decode cX0_remember 20 = .ok (.aload_n 0, 1) := by decide +kernel
theorem dX0_remember_21 : decode cX0_remember 21 = .ok (.getfield 17, 3) := by decide +kernel
theorem dX0_remember_24 : decode cX0_remember 24 = .ok (.iconst 1, 1) := by decide +kernel
theorem dX0_remember_25 : decode cX0_remember 25 = .ok (.iadd, 1) := by decide +kernel
theorem dX0_remember_26 : decode cX0_remember 26 = .ok (.bipush 12, 2) := by decide +kernel
theorem dX0_remember_28 : decode cX0_remember 28 = .ok (.if_icmp .ge 12, 3) := by decide +kernel
theorem dX0_remember_31 : decode cX0_remember 31 = .ok (.aload_n 0, 1) := by decide +kernel
theorem dX0_remember_32 : decode cX0_remember 32 = .ok (.getfield 17, 3) := by decide +kernel
theorem dX0_remember_35 : decode cX0_remember 35 = .ok (.iconst 1, 1) := by decide +kernel
theorem dX0_remember_36 : decode cX0_remember 36 = .ok (.iadd, 1) := by decide +kernel
theorem dX0_remember_37 : decode cX0_remember 37 = .ok (.goto 4, 3) := by decide +kernel
theorem dX0_remember_40 : decode cX0_remember 40 = .ok (.iconst 0, 1) := by decide +kernel
theorem dX0_remember_41 : decode cX0_remember 41 = .ok (.putfield 17, 3) := by decide +kernel
theorem dX0_remember_44 : decode cX0_remember 44 = .ok (.aload_n 0, 1) := by decide +kernel
theorem dX0_remember_45 : decode cX0_remember 45 = .ok (.aload_n 0, 1) := by decide +kernel
theorem dX0_remember_46 : decode cX0_remember 46 = .ok (.getfield 21, 3) := by decide +kernel
theorem dX0_remember_49 : decode cX0_remember 49 = .ok (.iconst 1, 1) := by decide +kernel
theorem dX0_remember_50 : decode cX0_remember 50 = .ok (.iadd, 1) := by decide +kernel
theorem dX0_remember_51 : decode cX0_remember 51 = .ok (.bipush 12, 2) := by decide +kernel
theorem dX0_remember_53 : decode cX0_remember 53 = .ok (.invokestatic 29, 3) := by decide +kernel
theorem dX0_remember_56 : decode cX0_remember 56 = .ok (.putfield 21, 3) := by decide +kernel
theorem dX0_remember_59 : decode cX0_remember 59 = .ok (.return_, 1) := by decide +kernel
theorem dX0_takeBack_0 : decode cX0_takeBack 0 = .ok (.aload_n 0, 1) := by decide +kernel
theorem dX0_takeBack_1 : decode cX0_takeBack 1 = .ok (.getfield 21, 3) := by decide +kernel
theorem dX0_takeBack_4 : decode cX0_takeBack 4 = .ok (.ifCond .ne 5, 3) := by decide +kernel
theorem dX0_takeBack_7 : decode cX0_takeBack 7 = .ok (.iconst 0, 1) := by decide +kernel
theorem dX0_takeBack_8 : decode cX0_takeBack 8 = .ok (.ireturn, 1) := by decide +kernel
theorem dX0_takeBack_9 : decode cX0_takeBack 9 = .ok (.aload_n 0, 1) := by decide +kernel
theorem dX0_takeBack_10 : decode cX0_takeBack 10 = .ok (.aload_n 0, 1) := by decide +kernel
theorem dX0_takeBack_11 : decode cX0_takeBack 11 = .ok (.getfield 17, 3) := by decide +kernel
theorem dX0_takeBack_14 : decode cX0_takeBack 14 = .ok (.ifCond .le 12, 3) := by decide +kernel
theorem dX0_takeBack_17 : decode cX0_takeBack 17 = .ok (.aload_n 0, 1) := by decide +kernel
theorem dX0_takeBack_18 : decode cX0_takeBack 18 = .ok (.getfield 17, 3) := by decide +kernel
theorem dX0_takeBack_21 : decode cX0_takeBack 21 = .ok (.iconst 1, 1) := by decide +kernel
theorem dX0_takeBack_22 : decode cX0_takeBack 22 = .ok (.isub, 1) := by decide +kernel
theorem dX0_takeBack_23 : decode cX0_takeBack 23 = .ok (.goto 5, 3) := by decide +kernel
theorem dX0_takeBack_26 : decode cX0_takeBack 26 = .ok (.bipush 11, 2) := by decide +kernel
theorem dX0_takeBack_28 : decode cX0_takeBack 28 = .ok (.putfield 17, 3) := by decide +kernel
theorem dX0_takeBack_31 : decode cX0_takeBack 31 = .ok (.aload_n 0, 1) := by decide +kernel
theorem dX0_takeBack_32 : decode cX0_takeBack 32 = .ok (.dup, 1) := by decide +kernel
theorem dX0_takeBack_33 : decode cX0_takeBack 33 = .ok (.getfield 21, 3) := by decide +kernel
theorem dX0_takeBack_36 : decode cX0_takeBack 36 = .ok (.iconst 1, 1) := by decide +kernel
theorem dX0_takeBack_37 : decode cX0_takeBack 37 = .ok (.isub, 1) := by decide +kernel
theorem dX0_takeBack_38 : decode cX0_takeBack 38 = .ok (.putfield 21, 3) := by decide +kernel
theorem dX0_takeBack_41 : decode cX0_takeBack 41 = .ok (.aload_n 0, 1) := by decide +kernel
theorem dX0_takeBack_42 : decode cX0_takeBack 42 = .ok (.getfield 11, 3) := by decide +kernel
theorem dX0_takeBack_45 : decode cX0_takeBack 45 = .ok (.aload_n 0, 1) := by decide +kernel
theorem dX0_takeBack_46 : decode cX0_takeBack 46 = .ok (.getfield 17, 3) := by decide +kernel
theorem dX0_takeBack_49 : decode cX0_takeBack 49 = .ok (.aaload, 1) := by decide +kernel
theorem dX0_takeBack_50 : decode cX0_takeBack 50 = .ok (.astore_n 2, 1) := by decide +kernel
theorem dX0_takeBack_51 : decode cX0_takeBack 51 = .ok (.aload_n 2, 1) := by decide +kernel
theorem dX0_takeBack_52 : decode cX0_takeBack 52 = .ok (.ifnull 8, 3) := by decide +kernel
theorem dX0_takeBack_55 : decode cX0_takeBack 55 = .ok (.aload_n 1, 1) := by decide +kernel
theorem dX0_takeBack_56 : decode cX0_takeBack 56 = .ok (.aload_n 2, 1) := by decide +kernel
theorem dX0_takeBack_57 : decode cX0_takeBack 57 = .ok (.invokevirtual 25, 3) := by decide +kernel
theorem dX0_takeBack_60 : decode cX0_takeBack 60 = .ok (.iconst 1, 1) := by decide +kernel
theorem dX0_takeBack_61 : decode cX0_takeBack 61 = .ok (.ireturn, 1) := by decide +kernel
theorem dX0_forget_0 : decode cX0_forget 0 = .ok (.aload_n 0, 1) := by decide +kernel
theorem dX0_forget_1 : decode cX0_forget 1 = .ok (.iconst 0, 1) := by decide +kernel
theorem dX0_forget_2 : decode cX0_forget 2 = .ok (.putfield 21, 3) := by decide +kernel
theorem dX0_forget_5 : decode cX0_forget 5 = .ok (.return_, 1) := by decide +kernel
theorem dX1_init_0 : decode cX1_init 0 = .ok (.aload_n 0, 1) := by decide +kernel
theorem dX1_init_1 : decode cX1_init 1 = .ok (.invokespecial 3, 3) := by decide +kernel
theorem dX1_init_4 : decode cX1_init 4 = .ok (.aload_n 0, 1) := by decide +kernel
theorem dX1_init_5 : decode cX1_init 5 = .ok (.iconst 0, 1) := by decide +kernel
theorem dX1_init_6 : decode cX1_init 6 = .ok (.putfield 9, 3) := by decide +kernel
theorem dX1_init_9 : decode cX1_init 9 = .ok (.aload_n 0, 1) := by decide +kernel
theorem dX1_init_10 : decode cX1_init 10 = .ok (.iconst 0, 1) := by decide +kernel
theorem dX1_init_11 : decode cX1_init 11 = .ok (.putfield 15, 3) := by decide +kernel
theorem dX1_init_14 : decode cX1_init 14 = .ok (.aload_n 0, 1) := by decide +kernel
theorem dX1_init_15 : decode cX1_init 15 = .ok (.iconst 1, 1) := by decide +kernel
theorem dX1_init_16 : decode cX1_init 16 = .ok (.putfield 18, 3) := by decide +kernel
theorem dX1_init_19 : decode cX1_init 19 = .ok (.aload_n 0, 1) := by decide +kernel
theorem dX1_init_20 : decode cX1_init 20 = .ok (.iconst 0, 1) := by decide +kernel
theorem dX1_init_21 : decode cX1_init 21 = .ok (.putfield 21, 3) := by decide +kernel
theorem dX1_init_24 : decode cX1_init 24 = .ok (.aload_n 0, 1) := by decide +kernel
theorem dX1_init_25 : decode cX1_init 25 = .ok (.iconst 0, 1) := by decide +kernel
theorem dX1_init_26 : decode cX1_init 26 = .ok (.putfield 24, 3) := by decide +kernel
theorem dX1_init_29 : decode cX1_init 29 = .ok (.aload_n 0, 1) := by decide +kernel
theorem dX1_init_30 : decode cX1_init 30 = .ok (.iconst 4, 1) := by decide +kernel
theorem dX1_init_31 : decode cX1_init 31 = .ok (.newarray .int, 2) := by decide +kernel
theorem dX1_init_33 : decode cX1_init 33 = .ok (.putfield 27, 3) := by decide +kernel
theorem dX1_init_36 : decode cX1_init 36 = .ok (.aload_n 0, 1) := by decide +kernel
theorem dX1_init_37 : decode cX1_init 37 = .ok (.iconst 4, 1) := by decide +kernel
theorem dX1_init_38 : decode cX1_init 38 = .ok (.newarray .int, 2) := by decide +kernel
theorem dX1_init_40 : decode cX1_init 40 = .ok (.putfield 31, 3) := by decide +kernel
theorem dX1_init_43 : decode cX1_init 43 = .ok (.aload_n 0, 1) := by decide +kernel
theorem dX1_init_44 : decode cX1_init 44 = .ok (.iconst 4, 1) := by decide +kernel
theorem dX1_init_45 : decode cX1_init 45 = .ok (.newarray .int, 2) := by decide +kernel
theorem dX1_init_47 : decode cX1_init 47 = .ok (.putfield 34, 3) := by decide +kernel
theorem dX1_init_50 : decode cX1_init 50 = .ok (.aload_n 0, 1) := by decide +kernel
theorem dX1_init_51 : decode cX1_init 51 = .ok (.iconst 4, 1) := by decide +kernel
theorem dX1_init_52 : decode cX1_init 52 = .ok (.newarray .int, 2) := by decide +kernel
theorem dX1_init_54 : decode cX1_init 54 = .ok (.putfield 37, 3) := by decide +kernel
theorem dX1_init_57 : decode cX1_init 57 = .ok (.aload_n 0, 1) := by decide +kernel
theorem dX1_init_58 : decode cX1_init 58 = .ok (.iconst 4, 1) := by decide +kernel
theorem dX1_init_59 : decode cX1_init 59 = .ok (.newarray .int, 2) := by decide +kernel
theorem dX1_init_61 : decode cX1_init 61 = .ok (.putfield 40, 3) := by decide +kernel
theorem dX1_init_64 : decode cX1_init 64 = .ok (.aload_n 0, 1) := by decide +kernel
theorem dX1_init_65 : decode cX1_init 65 = .ok (.bipush 16, 2) := by decide +kernel
theorem dX1_init_67 : decode cX1_init 67 = .ok (.newarray .int, 2) := by decide +kernel
theorem dX1_init_69 : decode cX1_init 69 = .ok (.putfield 43, 3) := by decide +kernel
theorem dX1_init_72 : decode cX1_init 72 = .ok (.aload_n 0, 1) := by decide +kernel
theorem dX1_init_73 : decode cX1_init 73 = .ok (.bipush 16, 2) := by decide +kernel
theorem dX1_init_75 : decode cX1_init 75 = .ok (.newarray .int, 2) := by decide +kernel
theorem dX1_init_77 : decode cX1_init 77 = .ok (.putfield 46, 3) := by decide +kernel
theorem dX1_init_80 : decode cX1_init 80 = .ok (.aload_n 0, 1) := by decide +kernel
theorem dX1_init_81 : decode cX1_init 81 = .ok (.bipush 16, 2) := by decide +kernel
theorem dX1_init_83 : decode cX1_init 83 = .ok (.newarray .int, 2) := by decide +kernel
theorem dX1_init_85 : decode cX1_init 85 = .ok (.putfield 49, 3) := by decide +kernel
theorem dX1_init_88 : decode cX1_init 88 = .ok (.return_, 1) := by decide +kernel
theorem dX1_clear_0 : decode cX1_clear 0 = .ok (.aload_n 0, 1) := by decide +kernel
theorem dX1_clear_1 : decode cX1_clear 1 = .ok (.iconst 0, 1) := by decide +kernel
theorem dX1_clear_2 : decode cX1_clear 2 = .ok (.putfield 9, 3) := by decide +kernel
theorem dX1_clear_5 : decode cX1_clear 5 = .ok (.aload_n 0, 1) := by decide +kernel
theorem dX1_clear_6 : decode cX1_clear 6 = .ok (.iconst 0, 1) := by decide +kernel
theorem dX1_clear_7 : decode cX1_clear 7 = .ok (.putfield 15, 3) := by decide +kernel
theorem dX1_clear_10 : decode cX1_clear 10 = .ok (.aload_n 0, 1) := by decide +kernel
theorem dX1_clear_11 : decode cX1_clear 11 = .ok (.iconst 1, 1) := by decide +kernel
theorem dX1_clear_12 : decode cX1_clear 12 = .ok (.putfield 18, 3) := by decide +kernel
theorem dX1_clear_15 : decode cX1_clear 15 = .ok (.aload_n 0, 1) := by decide +kernel
theorem dX1_clear_16 : decode cX1_clear 16 = .ok (.iconst 0, 1) := by decide +kernel
theorem dX1_clear_17 : decode cX1_clear 17 = .ok (.putfield 21, 3) := by decide +kernel
theorem dX1_clear_20 : decode cX1_clear 20 = .ok (.aload_n 0, 1) := by decide +kernel
theorem dX1_clear_21 : decode cX1_clear 21 = .ok (.iconst 0, 1) := by decide +kernel
theorem dX1_clear_22 : decode cX1_clear 22 = .ok (.putfield 24, 3) := by decide +kernel
theorem dX1_clear_25 : decode cX1_clear 25 = .ok (.iconst 0, 1) := by decide +kernel
theorem dX1_clear_26 : decode cX1_clear 26 = .ok (.istore_n 1, 1) := by decide +kernel
theorem dX1_clear_27 : decode cX1_clear 27 = .ok (.iload_n 1, 1) := by decide +kernel
theorem dX1_clear_28 : decode cX1_clear 28 = .ok (.iconst 4, 1) := by decide +kernel
theorem dX1_clear_29 : decode cX1_clear 29 = .ok (.if_icmp .ge 44, 3) := by decide +kernel
theorem dX1_clear_32 : decode cX1_clear 32 = .ok (.aload_n 0, 1) := by decide +kernel
theorem dX1_clear_33 : decode cX1_clear 33 = .ok (.getfield 27, 3) := by decide +kernel
theorem dX1_clear_36 : decode cX1_clear 36 = .ok (.iload_n 1, 1) := by decide +kernel
theorem dX1_clear_37 : decode cX1_clear 37 = .ok (.iconst 0, 1) := by decide +kernel
theorem dX1_clear_38 : decode cX1_clear 38 = .ok (.iastore, 1) := by decide +kernel
theorem dX1_clear_39 : decode cX1_clear 39 = .ok (.aload_n 0, 1) := by decide +kernel
theorem dX1_clear_40 : decode cX1_clear 40 = .ok (.getfield 31, 3) := by decide +kernel
theorem dX1_clear_43 : decode cX1_clear 43 = .ok (.iload_n 1, 1) := by decide +kernel
theorem dX1_clear_44 : decode cX1_clear 44 = .ok (.iconst 0, 1) := by decide +kernel
theorem dX1_clear_45 : decode cX1_clear 45 = .ok (.iastore, 1) := by decide +kernel
theorem dX1_clear_46 : decode cX1_clear 46 = .ok (.aload_n 0, 1) := by decide +kernel
theorem dX1_clear_47 : decode cX1_clear 47 = .ok (.getfield 34, 3) := by decide +kernel
theorem dX1_clear_50 : decode cX1_clear 50 = .ok (.iload_n 1, 1) := by decide +kernel
theorem dX1_clear_51 : decode cX1_clear 51 = .ok (.iconst 0, 1) := by decide +kernel
theorem dX1_clear_52 : decode cX1_clear 52 = .ok (.iastore, 1) := by decide +kernel
theorem dX1_clear_53 : decode cX1_clear 53 = .ok (.aload_n 0, 1) := by decide +kernel
theorem dX1_clear_54 : decode cX1_clear 54 = .ok (.getfield 37, 3) := by decide +kernel
theorem dX1_clear_57 : decode cX1_clear 57 = .ok (.iload_n 1, 1) := by decide +kernel
theorem dX1_clear_58 : decode cX1_clear 58 = .ok (.iconst 0, 1) := by decide +kernel
theorem dX1_clear_59 : decode cX1_clear 59 = .ok (.iastore, 1) := by decide +kernel
theorem dX1_clear_60 : decode cX1_clear 60 = .ok (.aload_n 0, 1) := by decide +kernel
theorem dX1_clear_61 : decode cX1_clear 61 = .ok (.getfield 40, 3) := by decide +kernel
theorem dX1_clear_64 : decode cX1_clear 64 = .ok (.iload_n 1, 1) := by decide +kernel
theorem dX1_clear_65 : decode cX1_clear 65 = .ok (.iconst 0, 1) := by decide +kernel
theorem dX1_clear_66 : decode cX1_clear 66 = .ok (.iastore, 1) := by decide +kernel
theorem dX1_clear_67 : decode cX1_clear 67 = .ok (.iinc 1 1, 3) := by decide +kernel
theorem dX1_clear_70 : decode cX1_clear 70 = .ok (.goto (-43), 3) := by decide +kernel
theorem dX1_clear_73 : decode cX1_clear 73 = .ok (.iconst 0, 1) := by decide +kernel
theorem dX1_clear_74 : decode cX1_clear 74 = .ok (.istore_n 1, 1) := by decide +kernel
theorem dX1_clear_75 : decode cX1_clear 75 = .ok (.iload_n 1, 1) := by decide +kernel
theorem dX1_clear_76 : decode cX1_clear 76 = .ok (.bipush 16, 2) := by decide +kernel
theorem dX1_clear_78 : decode cX1_clear 78 = .ok (.if_icmp .ge 30, 3) := by decide +kernel
theorem dX1_clear_81 : decode cX1_clear 81 = .ok (.aload_n 0, 1) := by decide +kernel
theorem dX1_clear_82 : decode cX1_clear 82 = .ok (.getfield 43, 3) := by decide +kernel
theorem dX1_clear_85 : decode cX1_clear 85 = .ok (.iload_n 1, 1) := by decide +kernel
theorem dX1_clear_86 : decode cX1_clear 86 = .ok (.iconst 0, 1) := by decide +kernel
theorem dX1_clear_87 : decode cX1_clear 87 = .ok (.iastore, 1) := by decide +kernel
theorem dX1_clear_88 : decode cX1_clear 88 = .ok (.aload_n 0, 1) := by decide +kernel
theorem dX1_clear_89 : decode cX1_clear 89 = .ok (.getfield 46, 3) := by decide +kernel
theorem dX1_clear_92 : decode cX1_clear 92 = .ok (.iload_n 1, 1) := by decide +kernel
theorem dX1_clear_93 : decode cX1_clear 93 = .ok (.iconst 0, 1) := by decide +kernel
theorem dX1_clear_94 : decode cX1_clear 94 = .ok (.iastore, 1) := by decide +kernel
theorem dX1_clear_95 : decode cX1_clear 95 = .ok (.aload_n 0, 1) := by decide +kernel
theorem dX1_clear_96 : decode cX1_clear 96 = .ok (.getfield 49, 3) := by decide +kernel
theorem dX1_clear_99 : decode cX1_clear 99 = .ok (.iload_n 1, 1) := by decide +kernel
theorem dX1_clear_100 : decode cX1_clear 100 = .ok (.iconst 0, 1) := by decide +kernel
theorem dX1_clear_101 : decode cX1_clear 101 = .ok (.iastore, 1) := by decide +kernel
theorem dX1_clear_102 : decode cX1_clear 102 = .ok (.iinc 1 1, 3) := by decide +kernel
theorem dX1_clear_105 : decode cX1_clear 105 = .ok (.goto (-30), 3) := by decide +kernel
theorem dX1_clear_108 : decode cX1_clear 108 = .ok (.return_, 1) := by decide +kernel
theorem dX1_copyFrom_0 : decode cX1_copyFrom 0 = .ok (.aload_n 0, 1) := by decide +kernel
theorem dX1_copyFrom_1 : decode cX1_copyFrom 1 = .ok (.aload_n 1, 1) := by decide +kernel
theorem dX1_copyFrom_2 : decode cX1_copyFrom 2 = .ok (.getfield 9, 3) := by decide +kernel
theorem dX1_copyFrom_5 : decode cX1_copyFrom 5 = .ok (.putfield 9, 3) := by decide +kernel
theorem dX1_copyFrom_8 : decode cX1_copyFrom 8 = .ok (.aload_n 0, 1) := by decide +kernel
theorem dX1_copyFrom_9 : decode cX1_copyFrom 9 = .ok (.aload_n 1, 1) := by decide +kernel
theorem dX1_copyFrom_10 : decode cX1_copyFrom 10 = .ok (.getfield 15, 3) := by decide +kernel
theorem dX1_copyFrom_13 : decode cX1_copyFrom 13 = .ok (.putfield 15, 3) := by decide +kernel
theorem dX1_copyFrom_16 : decode cX1_copyFrom 16 = .ok (.aload_n 0, 1) := by decide +kernel
theorem dX1_copyFrom_17 : decode cX1_copyFrom 17 = .ok (.aload_n 1, 1) := by decide +kernel
theorem dX1_copyFrom_18 : decode cX1_copyFrom 18 = .ok (.getfield 18, 3) := by decide +kernel
theorem dX1_copyFrom_21 : decode cX1_copyFrom 21 = .ok (.putfield 18, 3) := by decide +kernel
theorem dX1_copyFrom_24 : decode cX1_copyFrom 24 = .ok (.aload_n 0, 1) := by decide +kernel
theorem dX1_copyFrom_25 : decode cX1_copyFrom 25 = .ok (.aload_n 1, 1) := by decide +kernel
theorem dX1_copyFrom_26 : decode cX1_copyFrom 26 = .ok (.getfield 21, 3) := by decide +kernel
theorem dX1_copyFrom_29 : decode cX1_copyFrom 29 = .ok (.putfield 21, 3) := by decide +kernel
theorem dX1_copyFrom_32 : decode cX1_copyFrom 32 = .ok (.aload_n 0, 1) := by decide +kernel
theorem dX1_copyFrom_33 : decode cX1_copyFrom 33 = .ok (.aload_n 1, 1) := by decide +kernel
theorem dX1_copyFrom_34 : decode cX1_copyFrom 34 = .ok (.getfield 24, 3) := by decide +kernel
theorem dX1_copyFrom_37 : decode cX1_copyFrom 37 = .ok (.putfield 24, 3) := by decide +kernel
theorem dX1_copyFrom_40 : decode cX1_copyFrom 40 = .ok (.aload_n 1, 1) := by decide +kernel
theorem dX1_copyFrom_41 : decode cX1_copyFrom 41 = .ok (.getfield 27, 3) := by decide +kernel
theorem dX1_copyFrom_44 : decode cX1_copyFrom 44 = .ok (.iconst 0, 1) := by decide +kernel
theorem dX1_copyFrom_45 : decode cX1_copyFrom 45 = .ok (.aload_n 0, 1) := by decide +kernel
theorem dX1_copyFrom_46 : decode cX1_copyFrom 46 = .ok (.getfield 27, 3) := by decide +kernel
theorem dX1_copyFrom_49 : decode cX1_copyFrom 49 = .ok (.iconst 0, 1) := by decide +kernel
theorem dX1_copyFrom_50 : decode cX1_copyFrom 50 = .ok (.iconst 4, 1) := by decide +kernel
theorem dX1_copyFrom_51 : decode cX1_copyFrom 51 = .ok (.invokestatic 52, 3) := by decide +kernel
theorem dX1_copyFrom_54 : decode cX1_copyFrom 54 = .ok (.aload_n 1, 1) := by decide +kernel
theorem dX1_copyFrom_55 : decode cX1_copyFrom 55 = .ok (.getfield 31, 3) := by decide +kernel
theorem dX1_copyFrom_58 : decode cX1_copyFrom 58 = .ok (.iconst 0, 1) := by decide +kernel
theorem dX1_copyFrom_59 : decode cX1_copyFrom 59 = .ok (.aload_n 0, 1) := by decide +kernel
theorem dX1_copyFrom_60 : decode cX1_copyFrom 60 = .ok (.getfield 31, 3) := by decide +kernel
theorem dX1_copyFrom_63 : decode cX1_copyFrom 63 = .ok (.iconst 0, 1) := by decide +kernel
theorem dX1_copyFrom_64 : decode cX1_copyFrom 64 = .ok (.iconst 4, 1) := by decide +kernel
theorem dX1_copyFrom_65 : decode cX1_copyFrom 65 = .ok (.invokestatic 52, 3) := by decide +kernel
theorem dX1_copyFrom_68 : decode cX1_copyFrom 68 = .ok (.aload_n 1, 1) := by decide +kernel
theorem dX1_copyFrom_69 : decode cX1_copyFrom 69 = .ok (.getfield 34, 3) := by decide +kernel
theorem dX1_copyFrom_72 : decode cX1_copyFrom 72 = .ok (.iconst 0, 1) := by decide +kernel
theorem dX1_copyFrom_73 : decode cX1_copyFrom 73 = .ok (.aload_n 0, 1) := by decide +kernel
theorem dX1_copyFrom_74 : decode cX1_copyFrom 74 = .ok (.getfield 34, 3) := by decide +kernel
theorem dX1_copyFrom_77 : decode cX1_copyFrom 77 = .ok (.iconst 0, 1) := by decide +kernel
theorem dX1_copyFrom_78 : decode cX1_copyFrom 78 = .ok (.iconst 4, 1) := by decide +kernel
theorem dX1_copyFrom_79 : decode cX1_copyFrom 79 = .ok (.invokestatic 52, 3) := by decide +kernel
theorem dX1_copyFrom_82 : decode cX1_copyFrom 82 = .ok (.aload_n 1, 1) := by decide +kernel
theorem dX1_copyFrom_83 : decode cX1_copyFrom 83 = .ok (.getfield 37, 3) := by decide +kernel
theorem dX1_copyFrom_86 : decode cX1_copyFrom 86 = .ok (.iconst 0, 1) := by decide +kernel
theorem dX1_copyFrom_87 : decode cX1_copyFrom 87 = .ok (.aload_n 0, 1) := by decide +kernel
theorem dX1_copyFrom_88 : decode cX1_copyFrom 88 = .ok (.getfield 37, 3) := by decide +kernel
theorem dX1_copyFrom_91 : decode cX1_copyFrom 91 = .ok (.iconst 0, 1) := by decide +kernel
theorem dX1_copyFrom_92 : decode cX1_copyFrom 92 = .ok (.iconst 4, 1) := by decide +kernel
theorem dX1_copyFrom_93 : decode cX1_copyFrom 93 = .ok (.invokestatic 52, 3) := by decide +kernel
theorem dX1_copyFrom_96 : decode cX1_copyFrom 96 = .ok (.aload_n 1, 1) := by decide +kernel
theorem dX1_copyFrom_97 : decode cX1_copyFrom 97 = .ok (.getfield 40, 3) := by decide +kernel
theorem dX1_copyFrom_100 : decode cX1_copyFrom 100 = .ok (.iconst 0, 1) := by decide +kernel
theorem dX1_copyFrom_101 : decode cX1_copyFrom 101 = .ok (.aload_n 0, 1) := by decide +kernel
theorem dX1_copyFrom_102 : decode cX1_copyFrom 102 = .ok (.getfield 40, 3) := by decide +kernel
theorem dX1_copyFrom_105 : decode cX1_copyFrom 105 = .ok (.iconst 0, 1) := by decide +kernel
theorem dX1_copyFrom_106 : decode cX1_copyFrom 106 = .ok (.iconst 4, 1) := by decide +kernel
theorem dX1_copyFrom_107 : decode cX1_copyFrom 107 = .ok (.invokestatic 52, 3) := by decide +kernel
theorem dX1_copyFrom_110 : decode cX1_copyFrom 110 = .ok (.aload_n 1, 1) := by decide +kernel
theorem dX1_copyFrom_111 : decode cX1_copyFrom 111 = .ok (.getfield 43, 3) := by decide +kernel
theorem dX1_copyFrom_114 : decode cX1_copyFrom 114 = .ok (.iconst 0, 1) := by decide +kernel
theorem dX1_copyFrom_115 : decode cX1_copyFrom 115 = .ok (.aload_n 0, 1) := by decide +kernel
theorem dX1_copyFrom_116 : decode cX1_copyFrom 116 = .ok (.getfield 43, 3) := by decide +kernel
theorem dX1_copyFrom_119 : decode cX1_copyFrom 119 = .ok (.iconst 0, 1) := by decide +kernel
theorem dX1_copyFrom_120 : decode cX1_copyFrom 120 = .ok (.bipush 16, 2) := by decide +kernel
theorem dX1_copyFrom_122 : decode cX1_copyFrom 122 = .ok (.invokestatic 52, 3) := by decide +kernel
theorem dX1_copyFrom_125 : decode cX1_copyFrom 125 = .ok (.aload_n 1, 1) := by decide +kernel
theorem dX1_copyFrom_126 : decode cX1_copyFrom 126 = .ok (.getfield 46, 3) := by decide +kernel
theorem dX1_copyFrom_129 : decode cX1_copyFrom 129 = .ok (.iconst 0, 1) := by decide +kernel
theorem dX1_copyFrom_130 : decode cX1_copyFrom 130 = .ok (.aload_n 0, 1) := by decide +kernel
theorem dX1_copyFrom_131 : decode cX1_copyFrom 131 = .ok (.getfield 46, 3) := by decide +kernel
theorem dX1_copyFrom_134 : decode cX1_copyFrom 134 = .ok (.iconst 0, 1) := by decide +kernel
theorem dX1_copyFrom_135 : decode cX1_copyFrom 135 = .ok (.bipush 16, 2) := by decide +kernel
theorem dX1_copyFrom_137 : decode cX1_copyFrom 137 = .ok (.invokestatic 52, 3) := by decide +kernel
theorem dX1_copyFrom_140 : decode cX1_copyFrom 140 = .ok (.aload_n 1, 1) := by decide +kernel
theorem dX1_copyFrom_141 : decode cX1_copyFrom 141 = .ok (.getfield 49, 3) := by decide +kernel
theorem dX1_copyFrom_144 : decode cX1_copyFrom 144 = .ok (.iconst 0, 1) := by decide +kernel
theorem dX1_copyFrom_145 : decode cX1_copyFrom 145 = .ok (.aload_n 0, 1) := by decide +kernel
theorem dX1_copyFrom_146 : decode cX1_copyFrom 146 = .ok (.getfield 49, 3) := by decide +kernel
theorem dX1_copyFrom_149 : decode cX1_copyFrom 149 = .ok (.iconst 0, 1) := by decide +kernel
theorem dX1_copyFrom_150 : decode cX1_copyFrom 150 = .ok (.bipush 16, 2) := by decide +kernel
theorem dX1_copyFrom_152 : decode cX1_copyFrom 152 = .ok (.invokestatic 52, 3) := by decide +kernel
theorem dX1_copyFrom_155 : decode cX1_copyFrom 155 = .ok (.return_, 1) := by decide +kernel
theorem dX1_hasPart_0 : decode cX1_hasPart 0 = .ok (.iload_n 1, 1) := by decide +kernel
theorem dX1_hasPart_1 : decode cX1_hasPart 1 = .ok (.ifCond .lt 15, 3) := by decide +kernel
theorem dX1_hasPart_4 : decode cX1_hasPart 4 = .ok (.iload_n 1, 1) := by decide +kernel
theorem dX1_hasPart_5 : decode cX1_hasPart 5 = .ok (.aload_n 0, 1) := by decide +kernel
theorem dX1_hasPart_6 : decode cX1_hasPart 6 = .ok (.getfield 9, 3) := by decide +kernel
theorem dX1_hasPart_9 : decode cX1_hasPart 9 = .ok (.if_icmp .ge 7, 3) := by decide +kernel
theorem dX1_hasPart_12 : decode cX1_hasPart 12 = .ok (.iconst 1, 1) := by decide +kernel
theorem dX1_hasPart_13 : decode cX1_hasPart 13 = .ok (.goto 4, 3) := by decide +kernel
theorem dX1_hasPart_16 : decode cX1_hasPart 16 = .ok (.iconst 0, 1) := by decide +kernel
theorem dX1_hasPart_17 : decode cX1_hasPart 17 = .ok (.ireturn, 1) := by decide +kernel
theorem dX1_hasBase_0 : decode cX1_hasBase 0 = .ok (.iload_n 1, 1) := by decide +kernel
theorem dX1_hasBase_1 : decode cX1_hasBase 1 = .ok (.ifCond .lt 15, 3) := by decide +kernel
theorem dX1_hasBase_4 : decode cX1_hasBase 4 = .ok (.iload_n 1, 1) := by decide +kernel
theorem dX1_hasBase_5 : decode cX1_hasBase 5 = .ok (.aload_n 0, 1) := by decide +kernel
theorem dX1_hasBase_6 : decode cX1_hasBase 6 = .ok (.getfield 15, 3) := by decide +kernel
theorem dX1_hasBase_9 : decode cX1_hasBase 9 = .ok (.if_icmp .ge 7, 3) := by decide +kernel
theorem dX1_hasBase_12 : decode cX1_hasBase 12 = .ok (.iconst 1, 1) := by decide +kernel
theorem dX1_hasBase_13 : decode cX1_hasBase 13 = .ok (.goto 4, 3) := by decide +kernel
theorem dX1_hasBase_16 : decode cX1_hasBase 16 = .ok (.iconst 0, 1) := by decide +kernel
theorem dX1_hasBase_17 : decode cX1_hasBase 17 = .ok (.ireturn, 1) := by decide +kernel
theorem dX1_hasCell_0 : decode cX1_hasCell 0 = .ok (.aload_n 0, 1) := by decide +kernel
theorem dX1_hasCell_1 : decode cX1_hasCell 1 = .ok (.iload_n 1, 1) := by decide +kernel
theorem dX1_hasCell_2 : decode cX1_hasCell 2 = .ok (.invokevirtual 58, 3) := by decide +kernel
theorem dX1_hasCell_5 : decode cX1_hasCell 5 = .ok (.ifCond .eq 15, 3) := by decide +kernel
theorem dX1_hasCell_8 : decode cX1_hasCell 8 = .ok (.aload_n 0, 1) := by decide +kernel
theorem dX1_hasCell_9 : decode cX1_hasCell 9 = .ok (.iload_n 2, 1) := by decide +kernel
theorem dX1_hasCell_10 : decode cX1_hasCell 10 = .ok (.invokevirtual 62, 3) := by decide +kernel
theorem dX1_hasCell_13 : decode cX1_hasCell 13 = .ok (.ifCond .eq 7, 3) := by decide +kernel
theorem dX1_hasCell_16 : decode cX1_hasCell 16 = .ok (.iconst 1, 1) := by decide +kernel
theorem dX1_hasCell_17 : decode cX1_hasCell 17 = .ok (.goto 4, 3) := by decide +kernel
theorem dX1_hasCell_20 : decode cX1_hasCell 20 = .ok (.iconst 0, 1) := by decide +kernel
theorem dX1_hasCell_21 : decode cX1_hasCell 21 = .ok (.ireturn, 1) := by decide +kernel
theorem dX1_ofPart_0 : decode cX1_ofPart 0 = .ok (.iload_n 2, 1) := by decide +kernel
theorem dX1_ofPart_1 : decode cX1_ofPart 1 = .ok (.ifCond .ne 12, 3) := by decide +kernel
theorem dX1_ofPart_4 : decode cX1_ofPart 4 = .ok (.aload_n 0, 1) := by decide +kernel
theorem dX1_ofPart_5 : decode cX1_ofPart 5 = .ok (.getfield 27, 3) := by decide +kernel
theorem dX1_ofPart_8 : decode cX1_ofPart 8 = .ok (.iload_n 1, 1) := by decide +kernel
theorem dX1_ofPart_9 : decode cX1_ofPart 9 = .ok (.iaload, 1) := by decide +kernel
theorem dX1_ofPart_10 : decode cX1_ofPart 10 = .ok (.goto 23, 3) := by decide +kernel
theorem dX1_ofPart_13 : decode cX1_ofPart 13 = .ok (.iload_n 2, 1) := by decide +kernel
theorem dX1_ofPart_14 : decode cX1_ofPart 14 = .ok (.iconst 1, 1) := by decide +kernel
theorem dX1_ofPart_15 : decode cX1_ofPart 15 = .ok (.if_icmp .ne 12, 3) := by decide +kernel
theorem dX1_ofPart_18 : decode cX1_ofPart 18 = .ok (.aload_n 0, 1) := by decide +kernel
theorem dX1_ofPart_19 : decode cX1_ofPart 19 = .ok (.getfield 31, 3) := by decide +kernel
theorem dX1_ofPart_22 : decode cX1_ofPart 22 = .ok (.iload_n 1, 1) := by decide +kernel
theorem dX1_ofPart_23 : decode cX1_ofPart 23 = .ok (.iaload, 1) := by decide +kernel
theorem dX1_ofPart_24 : decode cX1_ofPart 24 = .ok (.goto 9, 3) := by decide +kernel
theorem dX1_ofPart_27 : decode cX1_ofPart 27 = .ok (.aload_n 0, 1) := by decide +kernel
theorem dX1_ofPart_28 : decode cX1_ofPart 28 = .ok (.getfield 34, 3) := by decide +kernel
theorem dX1_ofPart_31 : decode cX1_ofPart 31 = .ok (.iload_n 1, 1) := by decide +kernel
theorem dX1_ofPart_32 : decode cX1_ofPart 32 = .ok (.iaload, 1) := by decide +kernel
theorem dX1_ofPart_33 : decode cX1_ofPart 33 = .ok (.ireturn, 1) := by decide +kernel
theorem dX1_changePart_0 : decode cX1_changePart 0 = .ok (.iload_n 2, 1) := by decide +kernel
theorem dX1_changePart_1 : decode cX1_changePart 1 = .ok (.ifCond .ne 13, 3) := by decide +kernel
theorem dX1_changePart_4 : decode cX1_changePart 4 = .ok (.aload_n 0, 1) := by decide +kernel
theorem dX1_changePart_5 : decode cX1_changePart 5 = .ok (.getfield 27, 3) := by decide +kernel
theorem dX1_changePart_8 : decode cX1_changePart 8 = .ok (.iload_n 1, 1) := by decide +kernel
theorem dX1_changePart_9 : decode cX1_changePart 9 = .ok (.iload_n 3, 1) := by decide +kernel
theorem dX1_changePart_10 : decode cX1_changePart 10 = .ok (.iastore, 1) := by decide +kernel
theorem dX1_changePart_11 : decode cX1_changePart 11 = .ok (.goto 25, 3) := by decide +kernel
theorem dX1_changePart_14 : decode cX1_changePart 14 = .ok (.iload_n 2, 1) := by decide +kernel
theorem dX1_changePart_15 : decode cX1_changePart 15 = .ok (.iconst 1, 1) := by decide +kernel
theorem dX1_changePart_16 : decode cX1_changePart 16 = .ok (.if_icmp .ne 13, 3) := by decide +kernel
theorem dX1_changePart_19 : decode cX1_changePart 19 = .ok (.aload_n 0, 1) := by decide +kernel
theorem dX1_changePart_20 : decode cX1_changePart 20 = .ok (.getfield 31, 3) := by decide +kernel
theorem dX1_changePart_23 : decode cX1_changePart 23 = .ok (.iload_n 1, 1) := by decide +kernel
theorem dX1_changePart_24 : decode cX1_changePart 24 = .ok (.iload_n 3, 1) := by decide +kernel
theorem dX1_changePart_25 : decode cX1_changePart 25 = .ok (.iastore, 1) := by decide +kernel
theorem dX1_changePart_26 : decode cX1_changePart 26 = .ok (.goto 10, 3) := by decide +kernel
theorem dX1_changePart_29 : decode cX1_changePart 29 = .ok (.aload_n 0, 1) := by decide +kernel
theorem dX1_changePart_30 : decode cX1_changePart 30 = .ok (.getfield 34, 3) := by decide +kernel
theorem dX1_changePart_33 : decode cX1_changePart 33 = .ok (.iload_n 1, 1) := by decide +kernel
theorem dX1_changePart_34 : decode cX1_changePart 34 = .ok (.iload_n 3, 1) := by decide +kernel
theorem dX1_changePart_35 : decode cX1_changePart 35 = .ok (.iastore, 1) := by decide +kernel
theorem dX1_changePart_36 : decode cX1_changePart 36 = .ok (.return_, 1) := by decide +kernel
theorem dX2_init_0 : decode cX2_init 0 = .ok (.aload_n 0, 1) := by decide +kernel
theorem dX2_init_1 : decode cX2_init 1 = .ok (.invokespecial 3, 3) := by decide +kernel
theorem dX2_init_4 : decode cX2_init 4 = .ok (.aload_n 0, 1) := by decide +kernel
theorem dX2_init_5 : decode cX2_init 5 = .ok (.new 9, 3) := by decide +kernel
theorem dX2_init_8 : decode cX2_init 8 = .ok (.dup, 1) := by decide +kernel
theorem dX2_init_9 : decode cX2_init 9 = .ok (.invokespecial 11, 3) := by decide +kernel
theorem dX2_init_12 : decode cX2_init 12 = .ok (.putfield 12, 3) := by decide +kernel
theorem dX2_init_15 : decode cX2_init 15 = .ok (.aload_n 0, 1) := by decide +kernel
theorem dX2_init_16 : decode cX2_init 16 = .ok (.bipush 16, 2) := by decide +kernel
theorem dX2_init_18 : decode cX2_init 18 = .ok (.newarray .int, 2) := by decide +kernel
theorem dX2_init_20 : decode cX2_init 20 = .ok (.putfield 18, 3) := by decide +kernel
theorem dX2_init_23 : decode cX2_init 23 = .ok (.aload_n 0, 1) := by decide +kernel
theorem dX2_init_24 : decode cX2_init 24 = .ok (.bipush 16, 2) := by decide +kernel
theorem dX2_init_26 : decode cX2_init 26 = .ok (.newarray .int, 2) := by decide +kernel
theorem dX2_init_28 : decode cX2_init 28 = .ok (.putfield 22, 3) := by decide +kernel
theorem dX2_init_31 : decode cX2_init 31 = .ok (.aload_n 0, 1) := by decide +kernel
theorem dX2_init_32 : decode cX2_init 32 = .ok (.bipush 16, 2) := by decide +kernel
theorem dX2_init_34 : decode cX2_init 34 = .ok (.newarray .int, 2) := by decide +kernel
theorem dX2_init_36 : decode cX2_init 36 = .ok (.putfield 25, 3) := by decide +kernel
theorem dX2_init_39 : decode cX2_init 39 = .ok (.aload_n 0, 1) := by decide +kernel
theorem dX2_init_40 : decode cX2_init 40 = .ok (.iconst 4, 1) := by decide +kernel
theorem dX2_init_41 : decode cX2_init 41 = .ok (.newarray .int, 2) := by decide +kernel
theorem dX2_init_43 : decode cX2_init 43 = .ok (.putfield 28, 3) := by decide +kernel
theorem dX2_init_46 : decode cX2_init 46 = .ok (.aload_n 0, 1) := by decide +kernel
theorem dX2_init_47 : decode cX2_init 47 = .ok (.new 31, 3) := by decide +kernel
theorem dX2_init_50 : decode cX2_init 50 = .ok (.dup, 1) := by decide +kernel
theorem dX2_init_51 : decode cX2_init 51 = .ok (.sipush 184, 3) := by decide +kernel
theorem dX2_init_54 : decode cX2_init 54 = .ok (.invokespecial 33, 3) := by decide +kernel
theorem dX2_init_57 : decode cX2_init 57 = .ok (.putfield 36, 3) := by decide +kernel
theorem dX2_init_60 : decode cX2_init 60 = .ok (.aload_n 0, 1) := by decide +kernel
theorem dX2_init_61 : decode cX2_init 61 = .ok (.new 31, 3) := by decide +kernel
theorem dX2_init_64 : decode cX2_init 64 = .ok (.dup, 1) := by decide +kernel
theorem dX2_init_65 : decode cX2_init 65 = .ok (.bipush 72, 2) := by decide +kernel
theorem dX2_init_67 : decode cX2_init 67 = .ok (.invokespecial 33, 3) := by decide +kernel
theorem dX2_init_70 : decode cX2_init 70 = .ok (.putfield 40, 3) := by decide +kernel
theorem dX2_init_73 : decode cX2_init 73 = .ok (.aload_n 0, 1) := by decide +kernel
theorem dX2_init_74 : decode cX2_init 74 = .ok (.new 31, 3) := by decide +kernel
theorem dX2_init_77 : decode cX2_init 77 = .ok (.dup, 1) := by decide +kernel
theorem dX2_init_78 : decode cX2_init 78 = .ok (.sipush 184, 3) := by decide +kernel
theorem dX2_init_81 : decode cX2_init 81 = .ok (.invokespecial 33, 3) := by decide +kernel
theorem dX2_init_84 : decode cX2_init 84 = .ok (.putfield 43, 3) := by decide +kernel
theorem dX2_init_87 : decode cX2_init 87 = .ok (.aload_n 0, 1) := by decide +kernel
theorem dX2_init_88 : decode cX2_init 88 = .ok (.new 31, 3) := by decide +kernel
theorem dX2_init_91 : decode cX2_init 91 = .ok (.dup, 1) := by decide +kernel
theorem dX2_init_92 : decode cX2_init 92 = .ok (.sipush 184, 3) := by decide +kernel
theorem dX2_init_95 : decode cX2_init 95 = .ok (.invokespecial 33, 3) := by decide +kernel
theorem dX2_init_98 : decode cX2_init 98 = .ok (.putfield 46, 3) := by decide +kernel
theorem dX2_init_101 : decode cX2_init 101 = .ok (.aload_n 0, 1) := by decide +kernel
theorem dX2_init_102 : decode cX2_init 102 = .ok (.iconst 0, 1) := by decide +kernel
theorem dX2_init_103 : decode cX2_init 103 = .ok (.putfield 49, 3) := by decide +kernel
theorem dX2_init_106 : decode cX2_init 106 = .ok (.aload_n 0, 1) := by decide +kernel
theorem dX2_init_107 : decode cX2_init 107 = .ok (.iconst 0, 1) := by decide +kernel
theorem dX2_init_108 : decode cX2_init 108 = .ok (.putfield 53, 3) := by decide +kernel
theorem dX2_init_111 : decode cX2_init 111 = .ok (.aload_n 0, 1) := by decide +kernel
theorem dX2_init_112 : decode cX2_init 112 = .ok (.iconst 0, 1) := by decide +kernel
theorem dX2_init_113 : decode cX2_init 113 = .ok (.putfield 56, 3) := by decide +kernel
theorem dX2_init_116 : decode cX2_init 116 = .ok (.aload_n 0, 1) := by decide +kernel
theorem dX2_init_117 : decode cX2_init 117 = .ok (.iconst 0, 1) := by decide +kernel
theorem dX2_init_118 : decode cX2_init 118 = .ok (.putfield 59, 3) := by decide +kernel
theorem dX2_init_121 : decode cX2_init 121 = .ok (.aload_n 0, 1) := by decide +kernel
theorem dX2_init_122 : decode cX2_init 122 = .ok (.iconst 0, 1) := by decide +kernel
theorem dX2_init_123 : decode cX2_init 123 = .ok (.putfield 62, 3) := by decide +kernel
theorem dX2_init_126 : decode cX2_init 126 = .ok (.aload_n 0, 1) := by decide +kernel
theorem dX2_init_127 : decode cX2_init 127 = .ok (.iconst 0, 1) := by decide +kernel
theorem dX2_init_128 : decode cX2_init 128 = .ok (.putfield 65, 3) := by decide +kernel
theorem dX2_init_131 : decode cX2_init 131 = .ok (.aload_n 0, 1) := by decide +kernel
theorem dX2_init_132 : decode cX2_init 132 = .ok (.iconst 0, 1) := by decide +kernel
theorem dX2_init_133 : decode cX2_init 133 = .ok (.putfield 68, 3) := by decide +kernel
theorem dX2_init_136 : decode cX2_init 136 = .ok (.aload_n 0, 1) := by decide +kernel
theorem dX2_init_137 : decode cX2_init 137 = .ok (.iconst 0, 1) := by decide +kernel
theorem dX2_init_138 : decode cX2_init 138 = .ok (.putfield 71, 3) := by decide +kernel
theorem dX2_init_141 : decode cX2_init 141 = .ok (.aload_n 0, 1) := by decide +kernel
theorem dX2_init_142 : decode cX2_init 142 = .ok (.iconst 0, 1) := by decide +kernel
theorem dX2_init_143 : decode cX2_init 143 = .ok (.putfield 74, 3) := by decide +kernel
theorem dX2_init_146 : decode cX2_init 146 = .ok (.aload_n 0, 1) := by decide +kernel
theorem dX2_init_147 : decode cX2_init 147 = .ok (.iconst 0, 1) := by decide +kernel
theorem dX2_init_148 : decode cX2_init 148 = .ok (.putfield 77, 3) := by decide +kernel
theorem dX2_init_151 : decode cX2_init 151 = .ok (.return_, 1) := by decide +kernel
theorem dX2_beginAnew_0 : decode cX2_beginAnew 0 = .ok (.iconst 0, 1) := by decide +kernel
theorem dX2_beginAnew_1 : decode cX2_beginAnew 1 = .ok (.istore_n 1, 1) := by decide +kernel
theorem dX2_beginAnew_2 : decode cX2_beginAnew 2 = .ok (.iload_n 1, 1) := by decide +kernel
theorem dX2_beginAnew_3 : decode cX2_beginAnew 3 = .ok (.bipush 16, 2) := by decide +kernel
theorem dX2_beginAnew_5 : decode cX2_beginAnew 5 = .ok (.if_icmp .ge 38, 3) := by decide +kernel
theorem dX2_beginAnew_8 : decode cX2_beginAnew 8 = .ok (.aload_n 0, 1) := by decide +kernel
theorem dX2_beginAnew_9 : decode cX2_beginAnew 9 = .ok (.getfield 18, 3) := by decide +kernel
theorem dX2_beginAnew_12 : decode cX2_beginAnew 12 = .ok (.iload_n 1, 1) := by decide +kernel
theorem dX2_beginAnew_13 : decode cX2_beginAnew 13 = .ok (.aload_n 0, 1) := by decide +kernel
theorem dX2_beginAnew_14 : decode cX2_beginAnew 14 = .ok (.getfield 12, 3) := by decide +kernel
theorem dX2_beginAnew_17 : decode cX2_beginAnew 17 = .ok (.getfield 80, 3) := by decide +kernel
theorem dX2_beginAnew_20 : decode cX2_beginAnew 20 = .ok (.iload_n 1, 1) := by decide +kernel
theorem dX2_beginAnew_21 : decode cX2_beginAnew 21 = .ok (.iaload, 1) := by decide +kernel
theorem dX2_beginAnew_22 : decode cX2_beginAnew 22 = .ok (.iastore, 1) := by decide +kernel
theorem dX2_beginAnew_23 : decode cX2_beginAnew 23 = .ok (.aload_n 0, 1) := by decide +kernel
theorem dX2_beginAnew_24 : decode cX2_beginAnew 24 = .ok (.getfield 22, 3) := by decide +kernel
theorem dX2_beginAnew_27 : decode cX2_beginAnew 27 = .ok (.iload_n 1, 1) := by decide +kernel
theorem dX2_beginAnew_28 : decode cX2_beginAnew 28 = .ok (.iconst 0, 1) := by decide +kernel
theorem dX2_beginAnew_29 : decode cX2_beginAnew 29 = .ok (.iastore, 1) := by decide +kernel
theorem dX2_beginAnew_30 : decode cX2_beginAnew 30 = .ok (.aload_n 0, 1) := by decide +kernel
theorem dX2_beginAnew_31 : decode cX2_beginAnew 31 = .ok (.getfield 25, 3) := by decide +kernel
theorem dX2_beginAnew_34 : decode cX2_beginAnew 34 = .ok (.iload_n 1, 1) := by decide +kernel
theorem dX2_beginAnew_35 : decode cX2_beginAnew 35 = .ok (.iconst 0, 1) := by decide +kernel
theorem dX2_beginAnew_36 : decode cX2_beginAnew 36 = .ok (.iastore, 1) := by decide +kernel
theorem dX2_beginAnew_37 : decode cX2_beginAnew 37 = .ok (.iinc 1 1, 3) := by decide +kernel
theorem dX2_beginAnew_40 : decode cX2_beginAnew 40 = .ok (.goto (-38), 3) := by decide +kernel
theorem dX2_beginAnew_43 : decode cX2_beginAnew 43 = .ok (.iconst 0, 1) := by decide +kernel
theorem dX2_beginAnew_44 : decode cX2_beginAnew 44 = .ok (.istore_n 1, 1) := by decide +kernel
theorem dX2_beginAnew_45 : decode cX2_beginAnew 45 = .ok (.iload_n 1, 1) := by decide +kernel
theorem dX2_beginAnew_46 : decode cX2_beginAnew 46 = .ok (.iconst 4, 1) := by decide +kernel
theorem dX2_beginAnew_47 : decode cX2_beginAnew 47 = .ok (.if_icmp .ge 24, 3) := by decide +kernel
theorem dX2_beginAnew_50 : decode cX2_beginAnew 50 = .ok (.aload_n 0, 1) := by decide +kernel
theorem dX2_beginAnew_51 : decode cX2_beginAnew 51 = .ok (.getfield 28, 3) := by decide +kernel
theorem dX2_beginAnew_54 : decode cX2_beginAnew 54 = .ok (.iload_n 1, 1) := by decide +kernel
theorem dX2_beginAnew_55 : decode cX2_beginAnew 55 = .ok (.aload_n 0, 1) := by decide +kernel
theorem dX2_beginAnew_56 : decode cX2_beginAnew 56 = .ok (.getfield 12, 3) := by decide +kernel
theorem dX2_beginAnew_59 : decode cX2_beginAnew 59 = .ok (.getfield 83, 3) := by decide +kernel
theorem dX2_beginAnew_62 : decode cX2_beginAnew 62 = .ok (.iload_n 1, 1) := by decide +kernel
theorem dX2_beginAnew_63 : decode cX2_beginAnew 63 = .ok (.iaload, 1) := by decide +kernel
theorem dX2_beginAnew_64 : decode cX2_beginAnew 64 = .ok (.iastore, 1) := by decide +kernel
theorem dX2_beginAnew_65 : decode cX2_beginAnew 65 = .ok (.iinc 1 1, 3) := by decide +kernel
theorem dX2_beginAnew_68 : decode cX2_beginAnew 68 = .ok (.goto (-23), 3) := by decide +kernel
theorem dX2_beginAnew_71 : decode cX2_beginAnew 71 = .ok (.aload_n 0, 1) := by decide +kernel
theorem dX2_beginAnew_72 : decode cX2_beginAnew 72 = .ok (.getfield 36, 3) := by decide +kernel
theorem dX2_beginAnew_75 : decode cX2_beginAnew 75 = .ok (.iconst 0, 1) := by decide +kernel
theorem dX2_beginAnew_76 : decode cX2_beginAnew 76 = .ok (.putfield 86, 3) := by decide +kernel
theorem dX2_beginAnew_79 : decode cX2_beginAnew 79 = .ok (.aload_n 0, 1) := by decide +kernel
theorem dX2_beginAnew_80 : decode cX2_beginAnew 80 = .ok (.getfield 40, 3) := by decide +kernel
theorem dX2_beginAnew_83 : decode cX2_beginAnew 83 = .ok (.iconst 0, 1) := by decide +kernel
theorem dX2_beginAnew_84 : decode cX2_beginAnew 84 = .ok (.putfield 86, 3) := by decide +kernel
theorem dX2_beginAnew_87 : decode cX2_beginAnew 87 = .ok (.aload_n 0, 1) := by decide +kernel
theorem dX2_beginAnew_88 : decode cX2_beginAnew 88 = .ok (.getfield 43, 3) := by decide +kernel
theorem dX2_beginAnew_91 : decode cX2_beginAnew 91 = .ok (.iconst 0, 1) := by decide +kernel
theorem dX2_beginAnew_92 : decode cX2_beginAnew 92 = .ok (.putfield 86, 3) := by decide +kernel
theorem dX2_beginAnew_95 : decode cX2_beginAnew 95 = .ok (.aload_n 0, 1) := by decide +kernel
theorem dX2_beginAnew_96 : decode cX2_beginAnew 96 = .ok (.getfield 46, 3) := by decide +kernel
theorem dX2_beginAnew_99 : decode cX2_beginAnew 99 = .ok (.iconst 0, 1) := by decide +kernel
theorem dX2_beginAnew_100 : decode cX2_beginAnew 100 = .ok (.putfield 86, 3) := by decide +kernel
theorem dX2_beginAnew_103 : decode cX2_beginAnew 103 = .ok (.aload_n 0, 1) := by decide +kernel
theorem dX2_beginAnew_104 : decode cX2_beginAnew 104 = .ok (.iconst 0, 1) := by decide +kernel
theorem dX2_beginAnew_105 : decode cX2_beginAnew 105 = .ok (.putfield 49, 3) := by decide +kernel
theorem dX2_beginAnew_108 : decode cX2_beginAnew 108 = .ok (.aload_n 0, 1) := by decide +kernel
theorem dX2_beginAnew_109 : decode cX2_beginAnew 109 = .ok (.iconst 0, 1) := by decide +kernel
theorem dX2_beginAnew_110 : decode cX2_beginAnew 110 = .ok (.putfield 53, 3) := by decide +kernel
theorem dX2_beginAnew_113 : decode cX2_beginAnew 113 = .ok (.aload_n 0, 1) := by decide +kernel
theorem dX2_beginAnew_114 : decode cX2_beginAnew 114 = .ok (.iconst 0, 1) := by decide +kernel
theorem dX2_beginAnew_115 : decode cX2_beginAnew 115 = .ok (.putfield 56, 3) := by decide +kernel
theorem dX2_beginAnew_118 : decode cX2_beginAnew 118 = .ok (.aload_n 0, 1) := by decide +kernel
theorem dX2_beginAnew_119 : decode cX2_beginAnew 119 = .ok (.iconst 0, 1) := by decide +kernel
theorem dX2_beginAnew_120 : decode cX2_beginAnew 120 = .ok (.putfield 59, 3) := by decide +kernel
theorem dX2_beginAnew_123 : decode cX2_beginAnew 123 = .ok (.aload_n 0, 1) := by decide +kernel
theorem dX2_beginAnew_124 : decode cX2_beginAnew 124 = .ok (.iconst 0, 1) := by decide +kernel
theorem dX2_beginAnew_125 : decode cX2_beginAnew 125 = .ok (.putfield 62, 3) := by decide +kernel
theorem dX2_beginAnew_128 : decode cX2_beginAnew 128 = .ok (.aload_n 0, 1) := by decide +kernel
theorem dX2_beginAnew_129 : decode cX2_beginAnew 129 = .ok (.iconst 0, 1) := by decide +kernel
theorem dX2_beginAnew_130 : decode cX2_beginAnew 130 = .ok (.putfield 65, 3) := by decide +kernel
theorem dX2_beginAnew_133 : decode cX2_beginAnew 133 = .ok (.aload_n 0, 1) := by decide +kernel
theorem dX2_beginAnew_134 : decode cX2_beginAnew 134 = .ok (.iconst 0, 1) := by decide +kernel
theorem dX2_beginAnew_135 : decode cX2_beginAnew 135 = .ok (.putfield 68, 3) := by decide +kernel
theorem dX2_beginAnew_138 : decode cX2_beginAnew 138 = .ok (.aload_n 0, 1) := by decide +kernel
theorem dX2_beginAnew_139 : decode cX2_beginAnew 139 = .ok (.iconst 0, 1) := by decide +kernel
theorem dX2_beginAnew_140 : decode cX2_beginAnew 140 = .ok (.putfield 71, 3) := by decide +kernel
theorem dX2_beginAnew_143 : decode cX2_beginAnew 143 = .ok (.aload_n 0, 1) := by decide +kernel
theorem dX2_beginAnew_144 : decode cX2_beginAnew 144 = .ok (.iconst 0, 1) := by decide +kernel
theorem dX2_beginAnew_145 : decode cX2_beginAnew 145 = .ok (.putfield 74, 3) := by decide +kernel
theorem dX2_beginAnew_148 : decode cX2_beginAnew 148 = .ok (.aload_n 0, 1) := by decide +kernel
theorem dX2_beginAnew_149 : decode cX2_beginAnew 149 = .ok (.iconst 0, 1) := by decide +kernel
theorem dX2_beginAnew_150 : decode cX2_beginAnew 150 = .ok (.putfield 77, 3) := by decide +kernel
theorem dX2_beginAnew_153 : decode cX2_beginAnew 153 = .ok (.return_, 1) := by decide +kernel
theorem dX2_copyFrom_0 : decode cX2_copyFrom 0 = .ok (.aload_n 0, 1) := by decide +kernel
theorem dX2_copyFrom_1 : decode cX2_copyFrom 1 = .ok (.getfield 12, 3) := by decide +kernel
theorem dX2_copyFrom_4 : decode cX2_copyFrom 4 = .ok (.aload_n 1, 1) := by decide +kernel
theorem dX2_copyFrom_5 : decode cX2_copyFrom 5 = .ok (.getfield 12, 3) := by decide +kernel
theorem dX2_copyFrom_8 : decode cX2_copyFrom 8 = .ok (.invokevirtual 89, 3) := by decide +kernel
theorem dX2_copyFrom_11 : decode cX2_copyFrom 11 = .ok (.aload_n 1, 1) := by decide +kernel
theorem dX2_copyFrom_12 : decode cX2_copyFrom 12 = .ok (.getfield 18, 3) := by decide +kernel
theorem dX2_copyFrom_15 : decode cX2_copyFrom 15 = .ok (.iconst 0, 1) := by decide +kernel
theorem dX2_copyFrom_16 : decode cX2_copyFrom 16 = .ok (.aload_n 0, 1) := by decide +kernel
theorem dX2_copyFrom_17 : decode cX2_copyFrom 17 = .ok (.getfield 18, 3) := by decide +kernel
theorem dX2_copyFrom_20 : decode cX2_copyFrom 20 = .ok (.iconst 0, 1) := by decide +kernel
theorem dX2_copyFrom_21 : decode cX2_copyFrom 21 = .ok (.bipush 16, 2) := by decide +kernel
theorem dX2_copyFrom_23 : decode cX2_copyFrom 23 = .ok (.invokestatic 93, 3) := by decide +kernel
theorem dX2_copyFrom_26 : decode cX2_copyFrom 26 = .ok (.aload_n 1, 1) := by decide +kernel
theorem dX2_copyFrom_27 : decode cX2_copyFrom 27 = .ok (.getfield 22, 3) := by decide +kernel
theorem dX2_copyFrom_30 : decode cX2_copyFrom 30 = .ok (.iconst 0, 1) := by decide +kernel
theorem dX2_copyFrom_31 : decode cX2_copyFrom 31 = .ok (.aload_n 0, 1) := by decide +kernel
theorem dX2_copyFrom_32 : decode cX2_copyFrom 32 = .ok (.getfield 22, 3) := by decide +kernel
theorem dX2_copyFrom_35 : decode cX2_copyFrom 35 = .ok (.iconst 0, 1) := by decide +kernel
theorem dX2_copyFrom_36 : decode cX2_copyFrom 36 = .ok (.bipush 16, 2) := by decide +kernel
theorem dX2_copyFrom_38 : decode cX2_copyFrom 38 = .ok (.invokestatic 93, 3) := by decide +kernel
theorem dX2_copyFrom_41 : decode cX2_copyFrom 41 = .ok (.aload_n 1, 1) := by decide +kernel
theorem dX2_copyFrom_42 : decode cX2_copyFrom 42 = .ok (.getfield 25, 3) := by decide +kernel
theorem dX2_copyFrom_45 : decode cX2_copyFrom 45 = .ok (.iconst 0, 1) := by decide +kernel
theorem dX2_copyFrom_46 : decode cX2_copyFrom 46 = .ok (.aload_n 0, 1) := by decide +kernel
theorem dX2_copyFrom_47 : decode cX2_copyFrom 47 = .ok (.getfield 25, 3) := by decide +kernel
theorem dX2_copyFrom_50 : decode cX2_copyFrom 50 = .ok (.iconst 0, 1) := by decide +kernel
theorem dX2_copyFrom_51 : decode cX2_copyFrom 51 = .ok (.bipush 16, 2) := by decide +kernel
theorem dX2_copyFrom_53 : decode cX2_copyFrom 53 = .ok (.invokestatic 93, 3) := by decide +kernel
theorem dX2_copyFrom_56 : decode cX2_copyFrom 56 = .ok (.aload_n 1, 1) := by decide +kernel
theorem dX2_copyFrom_57 : decode cX2_copyFrom 57 = .ok (.getfield 28, 3) := by decide +kernel
theorem dX2_copyFrom_60 : decode cX2_copyFrom 60 = .ok (.iconst 0, 1) := by decide +kernel
theorem dX2_copyFrom_61 : decode cX2_copyFrom 61 = .ok (.aload_n 0, 1) := by decide +kernel
theorem dX2_copyFrom_62 : decode cX2_copyFrom 62 = .ok (.getfield 28, 3) := by decide +kernel
theorem dX2_copyFrom_65 : decode cX2_copyFrom 65 = .ok (.iconst 0, 1) := by decide +kernel
theorem dX2_copyFrom_66 : decode cX2_copyFrom 66 = .ok (.iconst 4, 1) := by decide +kernel
theorem dX2_copyFrom_67 : decode cX2_copyFrom 67 = .ok (.invokestatic 93, 3) := by decide +kernel
theorem dX2_copyFrom_70 : decode cX2_copyFrom 70 = .ok (.aload_n 0, 1) := by decide +kernel
theorem dX2_copyFrom_71 : decode cX2_copyFrom 71 = .ok (.getfield 36, 3) := by decide +kernel
theorem dX2_copyFrom_74 : decode cX2_copyFrom 74 = .ok (.aload_n 1, 1) := by decide +kernel
theorem dX2_copyFrom_75 : decode cX2_copyFrom 75 = .ok (.getfield 36, 3) := by decide +kernel
theorem dX2_copyFrom_78 : decode cX2_copyFrom 78 = .ok (.invokevirtual 99, 3) := by decide +kernel
theorem dX2_copyFrom_81 : decode cX2_copyFrom 81 = .ok (.aload_n 0, 1) := by decide +kernel
theorem dX2_copyFrom_82 : decode cX2_copyFrom 82 = .ok (.getfield 40, 3) := by decide +kernel
theorem dX2_copyFrom_85 : decode cX2_copyFrom 85 = .ok (.aload_n 1, 1) := by decide +kernel
theorem dX2_copyFrom_86 : decode cX2_copyFrom 86 = .ok (.getfield 40, 3) := by decide +kernel
theorem dX2_copyFrom_89 : decode cX2_copyFrom 89 = .ok (.invokevirtual 99, 3) := by decide +kernel
theorem dX2_copyFrom_92 : decode cX2_copyFrom 92 = .ok (.aload_n 0, 1) := by decide +kernel
theorem dX2_copyFrom_93 : decode cX2_copyFrom 93 = .ok (.getfield 43, 3) := by decide +kernel
theorem dX2_copyFrom_96 : decode cX2_copyFrom 96 = .ok (.aload_n 1, 1) := by decide +kernel
theorem dX2_copyFrom_97 : decode cX2_copyFrom 97 = .ok (.getfield 43, 3) := by decide +kernel
theorem dX2_copyFrom_100 : decode cX2_copyFrom 100 = .ok (.invokevirtual 99, 3) := by decide +kernel
theorem dX2_copyFrom_103 : decode cX2_copyFrom 103 = .ok (.aload_n 0, 1) := by decide +kernel
theorem dX2_copyFrom_104 : decode cX2_copyFrom 104 = .ok (.getfield 46, 3) := by decide +kernel
theorem dX2_copyFrom_107 : decode cX2_copyFrom 107 = .ok (.aload_n 1, 1) := by decide +kernel
theorem dX2_copyFrom_108 : decode cX2_copyFrom 108 = .ok (.getfield 46, 3) := by decide +kernel
theorem dX2_copyFrom_111 : decode cX2_copyFrom 111 = .ok (.invokevirtual 99, 3) := by decide +kernel
theorem dX2_copyFrom_114 : decode cX2_copyFrom 114 = .ok (.aload_n 0, 1) := by decide +kernel
theorem dX2_copyFrom_115 : decode cX2_copyFrom 115 = .ok (.aload_n 1, 1) := by decide +kernel
theorem dX2_copyFrom_116 : decode cX2_copyFrom 116 = .ok (.getfield 49, 3) := by decide +kernel
theorem dX2_copyFrom_119 : decode cX2_copyFrom 119 = .ok (.putfield 49, 3) := by decide +kernel
theorem dX2_copyFrom_122 : decode cX2_copyFrom 122 = .ok (.aload_n 0, 1) := by decide +kernel
theorem dX2_copyFrom_123 : decode cX2_copyFrom 123 = .ok (.aload_n 1, 1) := by decide +kernel
theorem dX2_copyFrom_124 : decode cX2_copyFrom 124 = .ok (.getfield 53, 3) := by decide +kernel
theorem dX2_copyFrom_127 : decode cX2_copyFrom 127 = .ok (.putfield 53, 3) := by decide +kernel
theorem dX2_copyFrom_130 : decode cX2_copyFrom 130 = .ok (.aload_n 0, 1) := by decide +kernel
theorem dX2_copyFrom_131 : decode cX2_copyFrom 131 = .ok (.aload_n 1, 1) := by decide +kernel
theorem dX2_copyFrom_132 : decode cX2_copyFrom 132 = .ok (.getfield 56, 3) := by decide +kernel
theorem dX2_copyFrom_135 : decode cX2_copyFrom 135 = .ok (.putfield 56, 3) := by decide +kernel
theorem dX2_copyFrom_138 : decode cX2_copyFrom 138 = .ok (.aload_n 0, 1) := by decide +kernel
theorem dX2_copyFrom_139 : decode cX2_copyFrom 139 = .ok (.aload_n 1, 1) := by decide +kernel
theorem dX2_copyFrom_140 : decode cX2_copyFrom 140 = .ok (.getfield 59, 3) := by decide +kernel
theorem dX2_copyFrom_143 : decode cX2_copyFrom 143 = .ok (.putfield 59, 3) := by decide +kernel
theorem dX2_copyFrom_146 : decode cX2_copyFrom 146 = .ok (.aload_n 0, 1) := by decide +kernel
theorem dX2_copyFrom_147 : decode cX2_copyFrom 147 = .ok (.aload_n 1, 1) := by decide +kernel
theorem dX2_copyFrom_148 : decode cX2_copyFrom 148 = .ok (.getfield 62, 3) := by decide +kernel
theorem dX2_copyFrom_151 : decode cX2_copyFrom 151 = .ok (.putfield 62, 3) := by decide +kernel
theorem dX2_copyFrom_154 : decode cX2_copyFrom 154 = .ok (.aload_n 0, 1) := by decide +kernel
theorem dX2_copyFrom_155 : decode cX2_copyFrom 155 = .ok (.aload_n 1, 1) := by decide +kernel
theorem dX2_copyFrom_156 : decode cX2_copyFrom 156 = .ok (.getfield 65, 3) := by decide +kernel
theorem dX2_copyFrom_159 : decode cX2_copyFrom 159 = .ok (.putfield 65, 3) := by decide +kernel
theorem dX2_copyFrom_162 : decode cX2_copyFrom 162 = .ok (.aload_n 0, 1) := by decide +kernel
theorem dX2_copyFrom_163 : decode cX2_copyFrom 163 = .ok (.aload_n 1, 1) := by decide +kernel
theorem dX2_copyFrom_164 : decode cX2_copyFrom 164 = .ok (.getfield 68, 3) := by decide +kernel
theorem dX2_copyFrom_167 : decode cX2_copyFrom 167 = .ok (.putfield 68, 3) := by decide +kernel
theorem dX2_copyFrom_170 : decode cX2_copyFrom 170 = .ok (.aload_n 0, 1) := by decide +kernel
theorem dX2_copyFrom_171 : decode cX2_copyFrom 171 = .ok (.aload_n 1, 1) := by decide +kernel
theorem dX2_copyFrom_172 : decode cX2_copyFrom 172 = .ok (.getfield 71, 3) := by decide +kernel
theorem dX2_copyFrom_175 : decode cX2_copyFrom 175 = .ok (.putfield 71, 3) := by decide +kernel
theorem dX2_copyFrom_178 : decode cX2_copyFrom 178 = .ok (.aload_n 0, 1) := by decide +kernel
theorem dX2_copyFrom_179 : decode cX2_copyFrom 179 = .ok (.aload_n 1, 1) := by decide +kernel
theorem dX2_copyFrom_180 : decode cX2_copyFrom 180 = .ok (.getfield 74, 3) := by decide +kernel
theorem dX2_copyFrom_183 : decode cX2_copyFrom 183 = .ok (.putfield 74, 3) := by decide +kernel
theorem dX2_copyFrom_186 : decode cX2_copyFrom 186 = .ok (.aload_n 0, 1) := by decide +kernel
theorem dX2_copyFrom_187 : decode cX2_copyFrom 187 = .ok (.aload_n 1, 1) := by decide +kernel
theorem dX2_copyFrom_188 : decode cX2_copyFrom 188 = .ok (.getfield 77, 3) := by decide +kernel
theorem dX2_copyFrom_191 : decode cX2_copyFrom 191 = .ok (.putfield 77, 3) := by decide +kernel
theorem dX2_copyFrom_194 : decode cX2_copyFrom 194 = .ok (.return_, 1) := by decide +kernel
theorem dX2_canGoBy_0 : decode cX2_canGoBy 0 = .ok (.iload_n 1, 1) := by decide +kernel
theorem dX2_canGoBy_1 : decode cX2_canGoBy 1 = .ok (.iconst 1, 1) := by decide +kernel
theorem dX2_canGoBy_2 : decode cX2_canGoBy 2 = .ok (.if_icmp .lt 24, 3) := by decide +kernel
theorem dX2_canGoBy_5 : decode cX2_canGoBy 5 = .ok (.iload_n 1, 1) := by decide +kernel
theorem dX2_canGoBy_6 : decode cX2_canGoBy 6 = .ok (.iload_n 2, 1) := by decide +kernel
theorem dX2_canGoBy_7 : decode cX2_canGoBy 7 = .ok (.if_icmp .gt 19, 3) := by decide +kernel
theorem dX2_canGoBy_10 : decode cX2_canGoBy 10 = .ok (.aload_n 0, 1) := by decide +kernel
theorem dX2_canGoBy_11 : decode cX2_canGoBy 11 = .ok (.getfield 49, 3) := by decide +kernel
theorem dX2_canGoBy_14 : decode cX2_canGoBy 14 = .ok (.iload_n 1, 1) := by decide +kernel
theorem dX2_canGoBy_15 : decode cX2_canGoBy 15 = .ok (.iadd, 1) := by decide +kernel
theorem dX2_canGoBy_16 : decode cX2_canGoBy 16 = .ok (.sipush 9999, 3) := by decide +kernel
theorem dX2_canGoBy_19 : decode cX2_canGoBy 19 = .ok (.if_icmp .gt 7, 3) := by decide +kernel
theorem dX2_canGoBy_22 : decode cX2_canGoBy 22 = .ok (.iconst 1, 1) := by decide +kernel
theorem dX2_canGoBy_23 : decode cX2_canGoBy 23 = .ok (.goto 4, 3) := by decide +kernel
theorem dX2_canGoBy_26 : decode cX2_canGoBy 26 = .ok (.iconst 0, 1) := by decide +kernel
theorem dX2_canGoBy_27 : decode cX2_canGoBy 27 = .ok (.ireturn, 1) := by decide +kernel
theorem dX2_canBreak_0 : decode cX2_canBreak 0 = .ok (.iload_n 1, 1) := by decide +kernel
theorem dX2_canBreak_1 : decode cX2_canBreak 1 = .ok (.bipush 15, 2) := by decide +kernel
theorem dX2_canBreak_3 : decode cX2_canBreak 3 = .ok (.iand, 1) := by decide +kernel
theorem dX2_canBreak_4 : decode cX2_canBreak 4 = .ok (.istore_n 2, 1) := by decide +kernel
theorem dX2_canBreak_5 : decode cX2_canBreak 5 = .ok (.aload_n 0, 1) := by decide +kernel
theorem dX2_canBreak_6 : decode cX2_canBreak 6 = .ok (.getfield 22, 3) := by decide +kernel
theorem dX2_canBreak_9 : decode cX2_canBreak 9 = .ok (.iload_n 2, 1) := by decide +kernel
theorem dX2_canBreak_10 : decode cX2_canBreak 10 = .ok (.iaload, 1) := by decide +kernel
theorem dX2_canBreak_11 : decode cX2_canBreak 11 = .ok (.aload_n 0, 1) := by decide +kernel
theorem dX2_canBreak_12 : decode cX2_canBreak 12 = .ok (.getfield 12, 3) := by decide +kernel
theorem dX2_canBreak_15 : decode cX2_canBreak 15 = .ok (.getfield 102, 3) := by decide +kernel
theorem dX2_canBreak_18 : decode cX2_canBreak 18 = .ok (.iload_n 2, 1) := by decide +kernel
theorem dX2_canBreak_19 : decode cX2_canBreak 19 = .ok (.iaload, 1) := by decide +kernel
theorem dX2_canBreak_20 : decode cX2_canBreak 20 = .ok (.if_icmp .ge 7, 3) := by decide +kernel
theorem dX2_canBreak_23 : decode cX2_canBreak 23 = .ok (.iconst 1, 1) := by decide +kernel
theorem dX2_canBreak_24 : decode cX2_canBreak 24 = .ok (.goto 4, 3) := by decide +kernel
theorem dX2_canBreak_27 : decode cX2_canBreak 27 = .ok (.iconst 0, 1) := by decide +kernel
theorem dX2_canBreak_28 : decode cX2_canBreak 28 = .ok (.ireturn, 1) := by decide +kernel
theorem dX2_breakPiece_0 : decode cX2_breakPiece 0 = .ok (.iload_n 1, 1) := by decide +kernel
theorem dX2_breakPiece_1 : decode cX2_breakPiece 1 = .ok (.bipush 15, 2) := by decide +kernel
theorem dX2_breakPiece_3 : decode cX2_breakPiece 3 = .ok (.iand, 1) := by decide +kernel
theorem dX2_breakPiece_4 : decode cX2_breakPiece 4 = .ok (.istore_n 2, 1) := by decide +kernel
theorem dX2_breakPiece_5 : decode cX2_breakPiece 5 = .ok (.iload_n 2, 1) := by decide +kernel
theorem dX2_breakPiece_6 : decode cX2_breakPiece 6 = .ok (.invokestatic 105, 3) := by decide +kernel
theorem dX2_breakPiece_9 : decode cX2_breakPiece 9 = .ok (.istore_n 3, 1) := by decide +kernel
theorem dX2_breakPiece_10 : decode cX2_breakPiece 10 = .ok (.aload_n 0, 1) := by decide +kernel
theorem dX2_breakPiece_11 : decode cX2_breakPiece 11 = .ok (.getfield 53, 3) := by decide +kernel
theorem dX2_breakPiece_14 : decode cX2_breakPiece 14 = .ok (.istore 4, 2) := by decide +kernel
theorem dX2_breakPiece_16 : decode cX2_breakPiece 16 = .ok (.aload_n 0, 1) := by decide +kernel
theorem dX2_breakPiece_17 : decode cX2_breakPiece 17 = .ok (.dup, 1) := by decide +kernel
theorem dX2_breakPiece_18 : decode cX2_breakPiece 18 = .ok (.getfield 59, 3) := by decide +kernel
theorem dX2_breakPiece_21 : decode cX2_breakPiece 21 = .ok (.iconst 1, 1) := by decide +kernel
theorem dX2_breakPiece_22 : decode cX2_breakPiece 22 = .ok (.iadd, 1) := by decide +kernel
theorem dX2_breakPiece_23 : decode cX2_breakPiece 23 = .ok (.putfield 59, 3) := by decide +kernel
theorem dX2_breakPiece_26 : decode cX2_breakPiece 26 = .ok (.aload_n 0, 1) := by decide +kernel
theorem dX2_breakPiece_27 : decode cX2_breakPiece 27 = .ok (.getfield 18, 3) := by decide +kernel
theorem dX2_breakPiece_30 : decode cX2_breakPiece 30 = .ok (.iload_n 2, 1) := by decide +kernel
theorem dX2_breakPiece_31 : decode cX2_breakPiece 31 = .ok (.iaload, 1) := by decide +kernel
theorem dX2_breakPiece_32 : decode cX2_breakPiece 32 = .ok (.ifCond .le 26, 3) := by decide +kernel
theorem dX2_breakPiece_35 : decode cX2_breakPiece 35 = .ok (.aload_n 0, 1) := by decide +kernel
theorem dX2_breakPiece_36 : decode cX2_breakPiece 36 = .ok (.getfield 18, 3) := by decide +kernel
theorem dX2_breakPiece_39 : decode cX2_breakPiece 39 = .ok (.iload_n 2, 1) := by decide +kernel
theorem dX2_breakPiece_40 : decode cX2_breakPiece 40 = .ok (.dup2, 1) := by decide +kernel
theorem dX2_breakPiece_41 : decode cX2_breakPiece 41 = .ok (.iaload, 1) := by decide +kernel
theorem dX2_breakPiece_42 : decode cX2_breakPiece 42 = .ok (.iconst 1, 1) := by decide +kernel
theorem dX2_breakPiece_43 : decode cX2_breakPiece 43 = .ok (.isub, 1) := by decide +kernel
theorem dX2_breakPiece_44 : decode cX2_breakPiece 44 = .ok (.iastore, 1) := by decide +kernel
theorem dX2_breakPiece_45 : decode cX2_breakPiece 45 = .ok (.aload_n 0, 1) := by decide +kernel
theorem dX2_breakPiece_46 : decode cX2_breakPiece 46 = .ok (.dup, 1) := by decide +kernel
theorem dX2_breakPiece_47 : decode cX2_breakPiece 47 = .ok (.getfield 62, 3) := by decide +kernel
theorem dX2_breakPiece_50 : decode cX2_breakPiece 50 = .ok (.iconst 1, 1) := by decide +kernel
theorem dX2_breakPiece_51 : decode cX2_breakPiece 51 = .ok (.iadd, 1) := by decide +kernel
theorem dX2_breakPiece_52 : decode cX2_breakPiece 52 = .ok (.putfield 62, 3) := by decide +kernel
theorem dX2_breakPiece_55 : decode cX2_breakPiece 55 = .ok (.goto 30, 3) := by decide +kernel
theorem dX2_breakPiece_58 : decode cX2_breakPiece 58 = .ok (.aload_n 0, 1) := by decide +kernel
theorem dX2_breakPiece_59 : decode cX2_breakPiece 59 = .ok (.getfield 22, 3) := by decide +kernel
theorem dX2_breakPiece_62 : decode cX2_breakPiece 62 = .ok (.iload_n 2, 1) := by decide +kernel
theorem dX2_breakPiece_63 : decode cX2_breakPiece 63 = .ok (.dup2, 1) := by decide +kernel
theorem dX2_breakPiece_64 : decode cX2_breakPiece 64 = .ok (.iaload, 1) := by decide +kernel
theorem dX2_breakPiece_65 : decode cX2_breakPiece 65 = .ok (.iconst 1, 1) := by decide +kernel
theorem dX2_breakPiece_66 : decode cX2_breakPiece 66 = .ok (.iadd, 1) := by decide +kernel
theorem dX2_breakPiece_67 : decode cX2_breakPiece 67 = .ok (.iastore, 1) := by decide +kernel
theorem dX2_breakPiece_68 : decode cX2_breakPiece 68 = .ok (.aload_n 0, 1) := by decide +kernel
theorem dX2_breakPiece_69 : decode cX2_breakPiece 69 = .ok (.getfield 40, 3) := by decide +kernel
theorem dX2_breakPiece_72 : decode cX2_breakPiece 72 = .ok (.aload_n 0, 1) := by decide +kernel
theorem dX2_breakPiece_73 : decode cX2_breakPiece 73 = .ok (.getfield 49, 3) := by decide +kernel
theorem dX2_breakPiece_76 : decode cX2_breakPiece 76 = .ok (.iconst 0, 1) := by decide +kernel
theorem dX2_breakPiece_77 : decode cX2_breakPiece 77 = .ok (.iconst 0, 1) := by decide +kernel
theorem dX2_breakPiece_78 : decode cX2_breakPiece 78 = .ok (.iload_n 2, 1) := by decide +kernel
theorem dX2_breakPiece_79 : decode cX2_breakPiece 79 = .ok (.invokestatic 109, 3) := by decide +kernel
theorem dX2_breakPiece_82 : decode cX2_breakPiece 82 = .ok (.invokevirtual 115, 3) := by decide +kernel
theorem dX2_breakPiece_85 : decode cX2_breakPiece 85 = .ok (.aload_n 0, 1) := by decide +kernel
theorem dX2_breakPiece_86 : decode cX2_breakPiece 86 = .ok (.getfield 12, 3) := by decide +kernel
theorem dX2_breakPiece_89 : decode cX2_breakPiece 89 = .ok (.getfield 119, 3) := by decide +kernel
theorem dX2_breakPiece_92 : decode cX2_breakPiece 92 = .ok (.iload_n 3, 1) := by decide +kernel
theorem dX2_breakPiece_93 : decode cX2_breakPiece 93 = .ok (.iaload, 1) := by decide +kernel
theorem dX2_breakPiece_94 : decode cX2_breakPiece 94 = .ok (.iconst 1, 1) := by decide +kernel
theorem dX2_breakPiece_95 : decode cX2_breakPiece 95 = .ok (.if_icmp .lt 21, 3) := by decide +kernel
theorem dX2_breakPiece_98 : decode cX2_breakPiece 98 = .ok (.aload_n 0, 1) := by decide +kernel
theorem dX2_breakPiece_99 : decode cX2_breakPiece 99 = .ok (.iconst 0, 1) := by decide +kernel
theorem dX2_breakPiece_100 : decode cX2_breakPiece 100 = .ok (.iload_n 2, 1) := by decide +kernel
theorem dX2_breakPiece_101 : decode cX2_breakPiece 101 = .ok (.aload_n 0, 1) := by decide +kernel
theorem dX2_breakPiece_102 : decode cX2_breakPiece 102 = .ok (.getfield 12, 3) := by decide +kernel
theorem dX2_breakPiece_105 : decode cX2_breakPiece 105 = .ok (.getfield 119, 3) := by decide +kernel
theorem dX2_breakPiece_108 : decode cX2_breakPiece 108 = .ok (.iload_n 3, 1) := by decide +kernel
theorem dX2_breakPiece_109 : decode cX2_breakPiece 109 = .ok (.iaload, 1) := by decide +kernel
theorem dX2_breakPiece_110 : decode cX2_breakPiece 110 = .ok (.invokevirtual 122, 3) := by decide +kernel
theorem dX2_breakPiece_113 : decode cX2_breakPiece 113 = .ok (.goto 43, 3) := by decide +kernel
theorem dX2_breakPiece_116 : decode cX2_breakPiece 116 = .ok (.aload_n 0, 1) := by decide +kernel
theorem dX2_breakPiece_117 : decode cX2_breakPiece 117 = .ok (.iconst 1, 1) := by decide +kernel
theorem dX2_breakPiece_118 : decode cX2_breakPiece 118 = .ok (.iload_n 2, 1) := by decide +kernel
theorem dX2_breakPiece_119 : decode cX2_breakPiece 119 = .ok (.aload_n 0, 1) := by decide +kernel
theorem dX2_breakPiece_120 : decode cX2_breakPiece 120 = .ok (.getfield 12, 3) := by decide +kernel
theorem dX2_breakPiece_123 : decode cX2_breakPiece 123 = .ok (.getfield 126, 3) := by decide +kernel
theorem dX2_breakPiece_126 : decode cX2_breakPiece 126 = .ok (.iload_n 2, 1) := by decide +kernel
theorem dX2_breakPiece_127 : decode cX2_breakPiece 127 = .ok (.invokestatic 129, 3) := by decide +kernel
theorem dX2_breakPiece_130 : decode cX2_breakPiece 130 = .ok (.iaload, 1) := by decide +kernel
theorem dX2_breakPiece_131 : decode cX2_breakPiece 131 = .ok (.invokevirtual 122, 3) := by decide +kernel
theorem dX2_breakPiece_134 : decode cX2_breakPiece 134 = .ok (.aload_n 0, 1) := by decide +kernel
theorem dX2_breakPiece_135 : decode cX2_breakPiece 135 = .ok (.getfield 43, 3) := by decide +kernel
theorem dX2_breakPiece_138 : decode cX2_breakPiece 138 = .ok (.aload_n 0, 1) := by decide +kernel
theorem dX2_breakPiece_139 : decode cX2_breakPiece 139 = .ok (.getfield 49, 3) := by decide +kernel
theorem dX2_breakPiece_142 : decode cX2_breakPiece 142 = .ok (.iconst 0, 1) := by decide +kernel
theorem dX2_breakPiece_143 : decode cX2_breakPiece 143 = .ok (.iconst 0, 1) := by decide +kernel
theorem dX2_breakPiece_144 : decode cX2_breakPiece 144 = .ok (.iload_n 2, 1) := by decide +kernel
theorem dX2_breakPiece_145 : decode cX2_breakPiece 145 = .ok (.invokestatic 109, 3) := by decide +kernel
theorem dX2_breakPiece_148 : decode cX2_breakPiece 148 = .ok (.invokevirtual 115, 3) := by decide +kernel
theorem dX2_breakPiece_151 : decode cX2_breakPiece 151 = .ok (.aload_n 0, 1) := by decide +kernel
theorem dX2_breakPiece_152 : decode cX2_breakPiece 152 = .ok (.iload_n 3, 1) := by decide +kernel
theorem dX2_breakPiece_153 : decode cX2_breakPiece 153 = .ok (.invokevirtual 132, 3) := by decide +kernel
theorem dX2_breakPiece_156 : decode cX2_breakPiece 156 = .ok (.iload 4, 2) := by decide +kernel
theorem dX2_breakPiece_158 : decode cX2_breakPiece 158 = .ok (.ireturn, 1) := by decide +kernel
theorem dX2_beginWay_0 : decode cX2_beginWay 0 = .ok (.aload_n 0, 1) := by decide +kernel
theorem dX2_beginWay_1 : decode cX2_beginWay 1 = .ok (.getfield 36, 3) := by decide +kernel
theorem dX2_beginWay_4 : decode cX2_beginWay 4 = .ok (.aload_n 0, 1) := by decide +kernel
theorem dX2_beginWay_5 : decode cX2_beginWay 5 = .ok (.getfield 49, 3) := by decide +kernel
theorem dX2_beginWay_8 : decode cX2_beginWay 8 = .ok (.iload_n 3, 1) := by decide +kernel
theorem dX2_beginWay_9 : decode cX2_beginWay 9 = .ok (.iadd, 1) := by decide +kernel
theorem dX2_beginWay_10 : decode cX2_beginWay 10 = .ok (.aload_n 0, 1) := by decide +kernel
theorem dX2_beginWay_11 : decode cX2_beginWay 11 = .ok (.getfield 53, 3) := by decide +kernel
theorem dX2_beginWay_14 : decode cX2_beginWay 14 = .ok (.iload_n 1, 1) := by decide +kernel
theorem dX2_beginWay_15 : decode cX2_beginWay 15 = .ok (.iload_n 2, 1) := by decide +kernel
theorem dX2_beginWay_16 : decode cX2_beginWay 16 = .ok (.invokestatic 109, 3) := by decide +kernel
theorem dX2_beginWay_19 : decode cX2_beginWay 19 = .ok (.invokevirtual 135, 3) := by decide +kernel
theorem dX2_beginWay_22 : decode cX2_beginWay 22 = .ok (.aload_n 0, 1) := by decide +kernel
theorem dX2_beginWay_23 : decode cX2_beginWay 23 = .ok (.dup, 1) := by decide +kernel
theorem dX2_beginWay_24 : decode cX2_beginWay 24 = .ok (.getfield 53, 3) := by decide +kernel
theorem dX2_beginWay_27 : decode cX2_beginWay 27 = .ok (.iconst 1, 1) := by decide +kernel
theorem dX2_beginWay_28 : decode cX2_beginWay 28 = .ok (.iadd, 1) := by decide +kernel
theorem dX2_beginWay_29 : decode cX2_beginWay 29 = .ok (.putfield 53, 3) := by decide +kernel
theorem dX2_beginWay_32 : decode cX2_beginWay 32 = .ok (.iload_n 1, 1) := by decide +kernel
theorem dX2_beginWay_33 : decode cX2_beginWay 33 = .ok (.iconst 2, 1) := by decide +kernel
theorem dX2_beginWay_34 : decode cX2_beginWay 34 = .ok (.if_icmp .ne 13, 3) := by decide +kernel
theorem dX2_beginWay_37 : decode cX2_beginWay 37 = .ok (.aload_n 0, 1) := by decide +kernel
theorem dX2_beginWay_38 : decode cX2_beginWay 38 = .ok (.dup, 1) := by decide +kernel
theorem dX2_beginWay_39 : decode cX2_beginWay 39 = .ok (.getfield 56, 3) := by decide +kernel
theorem dX2_beginWay_42 : decode cX2_beginWay 42 = .ok (.iconst 1, 1) := by decide +kernel
theorem dX2_beginWay_43 : decode cX2_beginWay 43 = .ok (.iadd, 1) := by decide +kernel
theorem dX2_beginWay_44 : decode cX2_beginWay 44 = .ok (.putfield 56, 3) := by decide +kernel
theorem dX2_beginWay_47 : decode cX2_beginWay 47 = .ok (.return_, 1) := by decide +kernel
theorem dX2_receive_0 : decode cX2_receive 0 = .ok (.iload_n 1, 1) := by decide +kernel
theorem dX2_receive_1 : decode cX2_receive 1 = .ok (.bipush 15, 2) := by decide +kernel
theorem dX2_receive_3 : decode cX2_receive 3 = .ok (.iand, 1) := by decide +kernel
theorem dX2_receive_4 : decode cX2_receive 4 = .ok (.istore_n 2, 1) := by decide +kernel
theorem dX2_receive_5 : decode cX2_receive 5 = .ok (.aload_n 0, 1) := by decide +kernel
theorem dX2_receive_6 : decode cX2_receive 6 = .ok (.getfield 22, 3) := by decide +kernel
theorem dX2_receive_9 : decode cX2_receive 9 = .ok (.iload_n 2, 1) := by decide +kernel
theorem dX2_receive_10 : decode cX2_receive 10 = .ok (.iaload, 1) := by decide +kernel
theorem dX2_receive_11 : decode cX2_receive 11 = .ok (.ifCond .le 17, 3) := by decide +kernel
theorem dX2_receive_14 : decode cX2_receive 14 = .ok (.aload_n 0, 1) := by decide +kernel
theorem dX2_receive_15 : decode cX2_receive 15 = .ok (.getfield 40, 3) := by decide +kernel
theorem dX2_receive_18 : decode cX2_receive 18 = .ok (.bipush 15, 2) := by decide +kernel
theorem dX2_receive_20 : decode cX2_receive 20 = .ok (.iload_n 2, 1) := by decide +kernel
theorem dX2_receive_21 : decode cX2_receive 21 = .ok (.iconst 0, 1) := by decide +kernel
theorem dX2_receive_22 : decode cX2_receive 22 = .ok (.invokevirtual 138, 3) := by decide +kernel
theorem dX2_receive_25 : decode cX2_receive 25 = .ok (.goto 4, 3) := by decide +kernel
theorem dX2_receive_28 : decode cX2_receive 28 = .ok (.iconst (-1), 1) := by decide +kernel
theorem dX2_receive_29 : decode cX2_receive 29 = .ok (.istore_n 3, 1) := by decide +kernel
theorem dX2_receive_30 : decode cX2_receive 30 = .ok (.iload_n 3, 1) := by decide +kernel
theorem dX2_receive_31 : decode cX2_receive 31 = .ok (.iconst (-1), 1) := by decide +kernel
theorem dX2_receive_32 : decode cX2_receive 32 = .ok (.if_icmp .ne 14, 3) := by decide +kernel
theorem dX2_receive_35 : decode cX2_receive 35 = .ok (.aload_n 0, 1) := by decide +kernel
theorem dX2_receive_36 : decode cX2_receive 36 = .ok (.getfield 18, 3) := by decide +kernel
theorem dX2_receive_39 : decode cX2_receive 39 = .ok (.iload_n 2, 1) := by decide +kernel
theorem dX2_receive_40 : decode cX2_receive 40 = .ok (.dup2, 1) := by decide +kernel
theorem dX2_receive_41 : decode cX2_receive 41 = .ok (.iaload, 1) := by decide +kernel
theorem dX2_receive_42 : decode cX2_receive 42 = .ok (.iconst 1, 1) := by decide +kernel
theorem dX2_receive_43 : decode cX2_receive 43 = .ok (.iadd, 1) := by decide +kernel
theorem dX2_receive_44 : decode cX2_receive 44 = .ok (.iastore, 1) := by decide +kernel
theorem dX2_receive_45 : decode cX2_receive 45 = .ok (.return_, 1) := by decide +kernel
theorem dX2_receive_46 : decode cX2_receive 46 = .ok (.aload_n 0, 1) := by decide +kernel
theorem dX2_receive_47 : decode cX2_receive 47 = .ok (.getfield 49, 3) := by decide +kernel
theorem dX2_receive_50 : decode cX2_receive 50 = .ok (.aload_n 0, 1) := by decide +kernel
theorem dX2_receive_51 : decode cX2_receive 51 = .ok (.getfield 40, 3) := by decide +kernel
theorem dX2_receive_54 : decode cX2_receive 54 = .ok (.iload_n 3, 1) := by decide +kernel
theorem dX2_receive_55 : decode cX2_receive 55 = .ok (.invokevirtual 142, 3) := by decide +kernel
theorem dX2_receive_58 : decode cX2_receive 58 = .ok (.invokestatic 146, 3) := by decide +kernel
theorem dX2_receive_61 : decode cX2_receive 61 = .ok (.isub, 1) := by decide +kernel
theorem dX2_receive_62 : decode cX2_receive 62 = .ok (.istore 4, 2) := by decide +kernel
theorem dX2_receive_64 : decode cX2_receive 64 = .ok (.aload_n 0, 1) := by decide +kernel
theorem dX2_receive_65 : decode cX2_receive 65 = .ok (.getfield 40, 3) := by decide +kernel
theorem dX2_receive_68 : decode cX2_receive 68 = .ok (.iload_n 3, 1) := by decide +kernel
theorem dX2_receive_69 : decode cX2_receive 69 = .ok (.invokevirtual 149, 3) := by decide +kernel
theorem dX2_receive_72 : decode cX2_receive 72 = .ok (.aload_n 0, 1) := by decide +kernel
theorem dX2_receive_73 : decode cX2_receive 73 = .ok (.getfield 22, 3) := by decide +kernel
theorem dX2_receive_76 : decode cX2_receive 76 = .ok (.iload_n 2, 1) := by decide +kernel
theorem dX2_receive_77 : decode cX2_receive 77 = .ok (.dup2, 1) := by decide +kernel
theorem dX2_receive_78 : decode cX2_receive 78 = .ok (.iaload, 1) := by decide +kernel
theorem dX2_receive_79 : decode cX2_receive 79 = .ok (.iconst 1, 1) := by decide +kernel
theorem dX2_receive_80 : decode cX2_receive 80 = .ok (.isub, 1) := by decide +kernel
theorem dX2_receive_81 : decode cX2_receive 81 = .ok (.iastore, 1) := by decide +kernel
theorem dX2_receive_82 : decode cX2_receive 82 = .ok (.aload_n 0, 1) := by decide +kernel
theorem dX2_receive_83 : decode cX2_receive 83 = .ok (.dup, 1) := by decide +kernel
theorem dX2_receive_84 : decode cX2_receive 84 = .ok (.getfield 65, 3) := by decide +kernel
theorem dX2_receive_87 : decode cX2_receive 87 = .ok (.iconst 1, 1) := by decide +kernel
theorem dX2_receive_88 : decode cX2_receive 88 = .ok (.iadd, 1) := by decide +kernel
theorem dX2_receive_89 : decode cX2_receive 89 = .ok (.putfield 65, 3) := by decide +kernel
theorem dX2_receive_92 : decode cX2_receive 92 = .ok (.aload_n 0, 1) := by decide +kernel
theorem dX2_receive_93 : decode cX2_receive 93 = .ok (.dup, 1) := by decide +kernel
theorem dX2_receive_94 : decode cX2_receive 94 = .ok (.getfield 68, 3) := by decide +kernel
theorem dX2_receive_97 : decode cX2_receive 97 = .ok (.iload 4, 2) := by decide +kernel
theorem dX2_receive_99 : decode cX2_receive 99 = .ok (.iadd, 1) := by decide +kernel
theorem dX2_receive_100 : decode cX2_receive 100 = .ok (.putfield 68, 3) := by decide +kernel
theorem dX2_receive_103 : decode cX2_receive 103 = .ok (.aload_n 0, 1) := by decide +kernel
theorem dX2_receive_104 : decode cX2_receive 104 = .ok (.aload_n 0, 1) := by decide +kernel
theorem dX2_receive_105 : decode cX2_receive 105 = .ok (.getfield 71, 3) := by decide +kernel
theorem dX2_receive_108 : decode cX2_receive 108 = .ok (.iload 4, 2) := by decide +kernel
theorem dX2_receive_110 : decode cX2_receive 110 = .ok (.invokestatic 152, 3) := by decide +kernel
theorem dX2_receive_113 : decode cX2_receive 113 = .ok (.putfield 71, 3) := by decide +kernel
theorem dX2_receive_116 : decode cX2_receive 116 = .ok (.return_, 1) := by decide +kernel
theorem dX2_answerCalls_0 : decode cX2_answerCalls 0 = .ok (.iload_n 1, 1) := by decide +kernel
theorem dX2_answerCalls_1 : decode cX2_answerCalls 1 = .ok (.iconst 3, 1) := by decide +kernel
theorem dX2_answerCalls_2 : decode cX2_answerCalls 2 = .ok (.iand, 1) := by decide +kernel
theorem dX2_answerCalls_3 : decode cX2_answerCalls 3 = .ok (.istore_n 2, 1) := by decide +kernel
theorem dX2_answerCalls_4 : decode cX2_answerCalls 4 = .ok (.iconst 0, 1) := by decide +kernel
theorem dX2_answerCalls_5 : decode cX2_answerCalls 5 = .ok (.istore_n 3, 1) := by decide +kernel
theorem dX2_answerCalls_6 : decode cX2_answerCalls 6 = .ok (.iload_n 3, 1) := by decide +kernel
theorem dX2_answerCalls_7 : decode cX2_answerCalls 7 = .ok (.sipush 184, 3) := by decide +kernel
theorem dX2_answerCalls_10 : decode cX2_answerCalls 10 = .ok (.if_icmp .ge 95, 3) := by decide +kernel
theorem dX2_answerCalls_13 : decode cX2_answerCalls 13 = .ok (.aload_n 0, 1) := by decide +kernel
theorem dX2_answerCalls_14 : decode cX2_answerCalls 14 = .ok (.getfield 28, 3) := by decide +kernel
theorem dX2_answerCalls_17 : decode cX2_answerCalls 17 = .ok (.iload_n 2, 1) := by decide +kernel
theorem dX2_answerCalls_18 : decode cX2_answerCalls 18 = .ok (.iaload, 1) := by decide +kernel
theorem dX2_answerCalls_19 : decode cX2_answerCalls 19 = .ok (.ifCond .le 86, 3) := by decide +kernel
theorem dX2_answerCalls_22 : decode cX2_answerCalls 22 = .ok (.aload_n 0, 1) := by decide +kernel
theorem dX2_answerCalls_23 : decode cX2_answerCalls 23 = .ok (.iload_n 2, 1) := by decide +kernel
theorem dX2_answerCalls_24 : decode cX2_answerCalls 24 = .ok (.invokevirtual 158, 3) := by decide +kernel
theorem dX2_answerCalls_27 : decode cX2_answerCalls 27 = .ok (.istore 4, 2) := by decide +kernel
theorem dX2_answerCalls_29 : decode cX2_answerCalls 29 = .ok (.iload 4, 2) := by decide +kernel
theorem dX2_answerCalls_31 : decode cX2_answerCalls 31 = .ok (.iconst (-1), 1) := by decide +kernel
theorem dX2_answerCalls_32 : decode cX2_answerCalls 32 = .ok (.if_icmp .ne 4, 3) := by decide +kernel
theorem dX2_answerCalls_35 : decode cX2_answerCalls 35 = .ok (.return_, 1) := by decide +kernel
theorem dX2_answerCalls_36 : decode cX2_answerCalls 36 = .ok (.aload_n 0, 1) := by decide +kernel
theorem dX2_answerCalls_37 : decode cX2_answerCalls 37 = .ok (.getfield 43, 3) := by decide +kernel
theorem dX2_answerCalls_40 : decode cX2_answerCalls 40 = .ok (.iload 4, 2) := by decide +kernel
theorem dX2_answerCalls_42 : decode cX2_answerCalls 42 = .ok (.invokevirtual 142, 3) := by decide +kernel
theorem dX2_answerCalls_45 : decode cX2_answerCalls 45 = .ok (.invokestatic 161, 3) := by decide +kernel
theorem dX2_answerCalls_48 : decode cX2_answerCalls 48 = .ok (.istore 5, 2) := by decide +kernel
theorem dX2_answerCalls_50 : decode cX2_answerCalls 50 = .ok (.aload_n 0, 1) := by decide +kernel
theorem dX2_answerCalls_51 : decode cX2_answerCalls 51 = .ok (.getfield 43, 3) := by decide +kernel
theorem dX2_answerCalls_54 : decode cX2_answerCalls 54 = .ok (.iload 4, 2) := by decide +kernel
theorem dX2_answerCalls_56 : decode cX2_answerCalls 56 = .ok (.invokevirtual 149, 3) := by decide +kernel
theorem dX2_answerCalls_59 : decode cX2_answerCalls 59 = .ok (.aload_n 0, 1) := by decide +kernel
theorem dX2_answerCalls_60 : decode cX2_answerCalls 60 = .ok (.getfield 28, 3) := by decide +kernel
theorem dX2_answerCalls_63 : decode cX2_answerCalls 63 = .ok (.iload_n 2, 1) := by decide +kernel
theorem dX2_answerCalls_64 : decode cX2_answerCalls 64 = .ok (.dup2, 1) := by decide +kernel
theorem dX2_answerCalls_65 : decode cX2_answerCalls 65 = .ok (.iaload, 1) := by decide +kernel
theorem dX2_answerCalls_66 : decode cX2_answerCalls 66 = .ok (.iconst 1, 1) := by decide +kernel
theorem dX2_answerCalls_67 : decode cX2_answerCalls 67 = .ok (.isub, 1) := by decide +kernel
theorem dX2_answerCalls_68 : decode cX2_answerCalls 68 = .ok (.iastore, 1) := by decide +kernel
theorem dX2_answerCalls_69 : decode cX2_answerCalls 69 = .ok (.aload_n 0, 1) := by decide +kernel
theorem dX2_answerCalls_70 : decode cX2_answerCalls 70 = .ok (.dup, 1) := by decide +kernel
theorem dX2_answerCalls_71 : decode cX2_answerCalls 71 = .ok (.getfield 77, 3) := by decide +kernel
theorem dX2_answerCalls_74 : decode cX2_answerCalls 74 = .ok (.iconst 1, 1) := by decide +kernel
theorem dX2_answerCalls_75 : decode cX2_answerCalls 75 = .ok (.iadd, 1) := by decide +kernel
theorem dX2_answerCalls_76 : decode cX2_answerCalls 76 = .ok (.putfield 77, 3) := by decide +kernel
theorem dX2_answerCalls_79 : decode cX2_answerCalls 79 = .ok (.aload_n 0, 1) := by decide +kernel
theorem dX2_answerCalls_80 : decode cX2_answerCalls 80 = .ok (.iconst 3, 1) := by decide +kernel
theorem dX2_answerCalls_81 : decode cX2_answerCalls 81 = .ok (.iload 5, 2) := by decide +kernel
theorem dX2_answerCalls_83 : decode cX2_answerCalls 83 = .ok (.aload_n 0, 1) := by decide +kernel
theorem dX2_answerCalls_84 : decode cX2_answerCalls 84 = .ok (.getfield 12, 3) := by decide +kernel
theorem dX2_answerCalls_87 : decode cX2_answerCalls 87 = .ok (.getfield 126, 3) := by decide +kernel
theorem dX2_answerCalls_90 : decode cX2_answerCalls 90 = .ok (.iload 5, 2) := by decide +kernel
theorem dX2_answerCalls_92 : decode cX2_answerCalls 92 = .ok (.invokestatic 129, 3) := by decide +kernel
theorem dX2_answerCalls_95 : decode cX2_answerCalls 95 = .ok (.iaload, 1) := by decide +kernel
theorem dX2_answerCalls_96 : decode cX2_answerCalls 96 = .ok (.invokevirtual 122, 3) := by decide +kernel
theorem dX2_answerCalls_99 : decode cX2_answerCalls 99 = .ok (.iinc 3 1, 3) := by decide +kernel
theorem dX2_answerCalls_102 : decode cX2_answerCalls 102 = .ok (.goto (-96), 3) := by decide +kernel
theorem dX2_answerCalls_105 : decode cX2_answerCalls 105 = .ok (.return_, 1) := by decide +kernel
theorem dX2_callToAnswer_0 : decode cX2_callToAnswer 0 = .ok (.aload_n 0, 1) := by decide +kernel
theorem dX2_callToAnswer_1 : decode cX2_callToAnswer 1 = .ok (.getfield 43, 3) := by decide +kernel
theorem dX2_callToAnswer_4 : decode cX2_callToAnswer 4 = .ok (.iconst 3, 1) := by decide +kernel
theorem dX2_callToAnswer_5 : decode cX2_callToAnswer 5 = .ok (.iload_n 1, 1) := by decide +kernel
theorem dX2_callToAnswer_6 : decode cX2_callToAnswer 6 = .ok (.iconst 0, 1) := by decide +kernel
theorem dX2_callToAnswer_7 : decode cX2_callToAnswer 7 = .ok (.invokevirtual 138, 3) := by decide +kernel
theorem dX2_callToAnswer_10 : decode cX2_callToAnswer 10 = .ok (.istore_n 2, 1) := by decide +kernel
theorem dX2_callToAnswer_11 : decode cX2_callToAnswer 11 = .ok (.iload_n 2, 1) := by decide +kernel
theorem dX2_callToAnswer_12 : decode cX2_callToAnswer 12 = .ok (.iconst (-1), 1) := by decide +kernel
theorem dX2_callToAnswer_13 : decode cX2_callToAnswer 13 = .ok (.if_icmp .eq 13, 3) := by decide +kernel
theorem dX2_callToAnswer_16 : decode cX2_callToAnswer 16 = .ok (.aload_n 0, 1) := by decide +kernel
theorem dX2_callToAnswer_17 : decode cX2_callToAnswer 17 = .ok (.getfield 12, 3) := by decide +kernel
theorem dX2_callToAnswer_20 : decode cX2_callToAnswer 20 = .ok (.getfield 164, 3) := by decide +kernel
theorem dX2_callToAnswer_23 : decode cX2_callToAnswer 23 = .ok (.ifCond .ne 5, 3) := by decide +kernel
theorem dX2_callToAnswer_26 : decode cX2_callToAnswer 26 = .ok (.iload_n 2, 1) := by decide +kernel
theorem dX2_callToAnswer_27 : decode cX2_callToAnswer 27 = .ok (.ireturn, 1) := by decide +kernel
theorem dX2_callToAnswer_28 : decode cX2_callToAnswer 28 = .ok (.iload_n 2, 1) := by decide +kernel
theorem dX2_callToAnswer_29 : decode cX2_callToAnswer 29 = .ok (.iconst 1, 1) := by decide +kernel
theorem dX2_callToAnswer_30 : decode cX2_callToAnswer 30 = .ok (.iadd, 1) := by decide +kernel
theorem dX2_callToAnswer_31 : decode cX2_callToAnswer 31 = .ok (.istore_n 3, 1) := by decide +kernel
theorem dX2_callToAnswer_32 : decode cX2_callToAnswer 32 = .ok (.iload_n 3, 1) := by decide +kernel
theorem dX2_callToAnswer_33 : decode cX2_callToAnswer 33 = .ok (.aload_n 0, 1) := by decide +kernel
theorem dX2_callToAnswer_34 : decode cX2_callToAnswer 34 = .ok (.getfield 43, 3) := by decide +kernel
theorem dX2_callToAnswer_37 : decode cX2_callToAnswer 37 = .ok (.getfield 86, 3) := by decide +kernel
theorem dX2_callToAnswer_40 : decode cX2_callToAnswer 40 = .ok (.if_icmp .ge 59, 3) := by decide +kernel
theorem dX2_callToAnswer_43 : decode cX2_callToAnswer 43 = .ok (.aload_n 0, 1) := by decide +kernel
theorem dX2_callToAnswer_44 : decode cX2_callToAnswer 44 = .ok (.getfield 43, 3) := by decide +kernel
theorem dX2_callToAnswer_47 : decode cX2_callToAnswer 47 = .ok (.iload_n 3, 1) := by decide +kernel
theorem dX2_callToAnswer_48 : decode cX2_callToAnswer 48 = .ok (.invokevirtual 142, 3) := by decide +kernel
theorem dX2_callToAnswer_51 : decode cX2_callToAnswer 51 = .ok (.invokestatic 161, 3) := by decide +kernel
theorem dX2_callToAnswer_54 : decode cX2_callToAnswer 54 = .ok (.istore 4, 2) := by decide +kernel
theorem dX2_callToAnswer_56 : decode cX2_callToAnswer 56 = .ok (.iload 4, 2) := by decide +kernel
theorem dX2_callToAnswer_58 : decode cX2_callToAnswer 58 = .ok (.invokestatic 105, 3) := by decide +kernel
theorem dX2_callToAnswer_61 : decode cX2_callToAnswer 61 = .ok (.iload_n 1, 1) := by decide +kernel
theorem dX2_callToAnswer_62 : decode cX2_callToAnswer 62 = .ok (.if_icmp .ne 31, 3) := by decide +kernel
theorem dX2_callToAnswer_65 : decode cX2_callToAnswer 65 = .ok (.aload_n 0, 1) := by decide +kernel
theorem dX2_callToAnswer_66 : decode cX2_callToAnswer 66 = .ok (.getfield 22, 3) := by decide +kernel
theorem dX2_callToAnswer_69 : decode cX2_callToAnswer 69 = .ok (.iload 4, 2) := by decide +kernel
theorem dX2_callToAnswer_71 : decode cX2_callToAnswer 71 = .ok (.iaload, 1) := by decide +kernel
theorem dX2_callToAnswer_72 : decode cX2_callToAnswer 72 = .ok (.aload_n 0, 1) := by decide +kernel
theorem dX2_callToAnswer_73 : decode cX2_callToAnswer 73 = .ok (.getfield 22, 3) := by decide +kernel
theorem dX2_callToAnswer_76 : decode cX2_callToAnswer 76 = .ok (.aload_n 0, 1) := by decide +kernel
theorem dX2_callToAnswer_77 : decode cX2_callToAnswer 77 = .ok (.getfield 43, 3) := by decide +kernel
theorem dX2_callToAnswer_80 : decode cX2_callToAnswer 80 = .ok (.iload_n 2, 1) := by decide +kernel
theorem dX2_callToAnswer_81 : decode cX2_callToAnswer 81 = .ok (.invokevirtual 142, 3) := by decide +kernel
theorem dX2_callToAnswer_84 : decode cX2_callToAnswer 84 = .ok (.invokestatic 161, 3) := by decide +kernel
theorem dX2_callToAnswer_87 : decode cX2_callToAnswer 87 = .ok (.iaload, 1) := by decide +kernel
theorem dX2_callToAnswer_88 : decode cX2_callToAnswer 88 = .ok (.if_icmp .le 5, 3) := by decide +kernel
theorem dX2_callToAnswer_91 : decode cX2_callToAnswer 91 = .ok (.iload_n 3, 1) := by decide +kernel
theorem dX2_callToAnswer_92 : decode cX2_callToAnswer 92 = .ok (.istore_n 2, 1) := by decide +kernel
theorem dX2_callToAnswer_93 : decode cX2_callToAnswer 93 = .ok (.iinc 3 1, 3) := by decide +kernel
theorem dX2_callToAnswer_96 : decode cX2_callToAnswer 96 = .ok (.goto (-64), 3) := by decide +kernel
theorem dX2_callToAnswer_99 : decode cX2_callToAnswer 99 = .ok (.iload_n 2, 1) := by decide +kernel
theorem dX2_callToAnswer_100 : decode cX2_callToAnswer 100 = .ok (.ireturn, 1) := by decide +kernel
theorem dX2_haveBenches_0 : decode cX2_haveBenches 0 = .ok (.aload_n 0, 1) := by decide +kernel
theorem dX2_haveBenches_1 : decode cX2_haveBenches 1 = .ok (.getfield 12, 3) := by decide +kernel
theorem dX2_haveBenches_4 : decode cX2_haveBenches 4 = .ok (.iload_n 1, 1) := by decide +kernel
theorem dX2_haveBenches_5 : decode cX2_haveBenches 5 = .ok (.putfield 167, 3) := by decide +kernel
theorem dX2_haveBenches_8 : decode cX2_haveBenches 8 = .ok (.aload_n 0, 1) := by decide +kernel
theorem dX2_haveBenches_9 : decode cX2_haveBenches 9 = .ok (.invokevirtual 170, 3) := by decide +kernel
theorem dX2_haveBenches_12 : decode cX2_haveBenches 12 = .ok (.return_, 1) := by decide +kernel
theorem dX2_fillBenches_0 : decode cX2_fillBenches 0 = .ok (.iconst 0, 1) := by decide +kernel
theorem dX2_fillBenches_1 : decode cX2_fillBenches 1 = .ok (.istore_n 1, 1) := by decide +kernel
theorem dX2_fillBenches_2 : decode cX2_fillBenches 2 = .ok (.iload_n 1, 1) := by decide +kernel
theorem dX2_fillBenches_3 : decode cX2_fillBenches 3 = .ok (.iconst 3, 1) := by decide +kernel
theorem dX2_fillBenches_4 : decode cX2_fillBenches 4 = .ok (.if_icmp .ge 72, 3) := by decide +kernel
theorem dX2_fillBenches_7 : decode cX2_fillBenches 7 = .ok (.aload_n 0, 1) := by decide +kernel
theorem dX2_fillBenches_8 : decode cX2_fillBenches 8 = .ok (.getfield 56, 3) := by decide +kernel
theorem dX2_fillBenches_11 : decode cX2_fillBenches 11 = .ok (.aload_n 0, 1) := by decide +kernel
theorem dX2_fillBenches_12 : decode cX2_fillBenches 12 = .ok (.getfield 12, 3) := by decide +kernel
theorem dX2_fillBenches_15 : decode cX2_fillBenches 15 = .ok (.getfield 167, 3) := by decide +kernel
theorem dX2_fillBenches_18 : decode cX2_fillBenches 18 = .ok (.if_icmp .ge 13, 3) := by decide +kernel
theorem dX2_fillBenches_21 : decode cX2_fillBenches 21 = .ok (.aload_n 0, 1) := by decide +kernel
theorem dX2_fillBenches_22 : decode cX2_fillBenches 22 = .ok (.getfield 46, 3) := by decide +kernel
theorem dX2_fillBenches_25 : decode cX2_fillBenches 25 = .ok (.getfield 86, 3) := by decide +kernel
theorem dX2_fillBenches_28 : decode cX2_fillBenches 28 = .ok (.ifCond .ne 4, 3) := by decide +kernel
theorem dX2_fillBenches_31 : decode cX2_fillBenches 31 = .ok (.return_, 1) := by decide +kernel
theorem dX2_fillBenches_32 : decode cX2_fillBenches 32 = .ok (.aload_n 0, 1) := by decide +kernel
theorem dX2_fillBenches_33 : decode cX2_fillBenches 33 = .ok (.getfield 46, 3) := by decide +kernel
theorem dX2_fillBenches_36 : decode cX2_fillBenches 36 = .ok (.iconst 0, 1) := by decide +kernel
theorem dX2_fillBenches_37 : decode cX2_fillBenches 37 = .ok (.invokevirtual 142, 3) := by decide +kernel
theorem dX2_fillBenches_40 : decode cX2_fillBenches 40 = .ok (.invokestatic 161, 3) := by decide +kernel
theorem dX2_fillBenches_43 : decode cX2_fillBenches 43 = .ok (.invokestatic 105, 3) := by decide +kernel
theorem dX2_fillBenches_46 : decode cX2_fillBenches 46 = .ok (.istore_n 2, 1) := by decide +kernel
theorem dX2_fillBenches_47 : decode cX2_fillBenches 47 = .ok (.aload_n 0, 1) := by decide +kernel
theorem dX2_fillBenches_48 : decode cX2_fillBenches 48 = .ok (.getfield 46, 3) := by decide +kernel
theorem dX2_fillBenches_51 : decode cX2_fillBenches 51 = .ok (.iconst 0, 1) := by decide +kernel
theorem dX2_fillBenches_52 : decode cX2_fillBenches 52 = .ok (.invokevirtual 149, 3) := by decide +kernel
theorem dX2_fillBenches_55 : decode cX2_fillBenches 55 = .ok (.aload_n 0, 1) := by decide +kernel
theorem dX2_fillBenches_56 : decode cX2_fillBenches 56 = .ok (.iconst 2, 1) := by decide +kernel
theorem dX2_fillBenches_57 : decode cX2_fillBenches 57 = .ok (.iload_n 2, 1) := by decide +kernel
theorem dX2_fillBenches_58 : decode cX2_fillBenches 58 = .ok (.aload_n 0, 1) := by decide +kernel
theorem dX2_fillBenches_59 : decode cX2_fillBenches 59 = .ok (.getfield 12, 3) := by decide +kernel
theorem dX2_fillBenches_62 : decode cX2_fillBenches 62 = .ok (.getfield 173, 3) := by decide +kernel
theorem dX2_fillBenches_65 : decode cX2_fillBenches 65 = .ok (.iload_n 2, 1) := by decide +kernel
theorem dX2_fillBenches_66 : decode cX2_fillBenches 66 = .ok (.iaload, 1) := by decide +kernel
theorem dX2_fillBenches_67 : decode cX2_fillBenches 67 = .ok (.invokevirtual 122, 3) := by decide +kernel
theorem dX2_fillBenches_70 : decode cX2_fillBenches 70 = .ok (.iinc 1 1, 3) := by decide +kernel
theorem dX2_fillBenches_73 : decode cX2_fillBenches 73 = .ok (.goto (-71), 3) := by decide +kernel
theorem dX2_fillBenches_76 : decode cX2_fillBenches 76 = .ok (.return_, 1) := by decide +kernel
theorem dX2_goBy_0 : decode cX2_goBy 0 = .ok (.aload_n 0, 1) := by decide +kernel
theorem dX2_goBy_1 : decode cX2_goBy 1 = .ok (.dup, 1) := by decide +kernel
theorem dX2_goBy_2 : decode cX2_goBy 2 = .ok (.getfield 49, 3) := by decide +kernel
theorem dX2_goBy_5 : decode cX2_goBy 5 = .ok (.iconst 1, 1) := by decide +kernel
theorem dX2_goBy_6 : decode cX2_goBy 6 = .ok (.iadd, 1) := by decide +kernel
theorem dX2_goBy_7 : decode cX2_goBy 7 = .ok (.putfield 49, 3) := by decide +kernel
theorem dX2_goBy_10 : decode cX2_goBy 10 = .ok (.iconst 0, 1) := by decide +kernel
theorem dX2_goBy_11 : decode cX2_goBy 11 = .ok (.istore_n 1, 1) := by decide +kernel
theorem dX2_goBy_12 : decode cX2_goBy 12 = .ok (.iload_n 1, 1) := by decide +kernel
theorem dX2_goBy_13 : decode cX2_goBy 13 = .ok (.sipush 184, 3) := by decide +kernel
theorem dX2_goBy_16 : decode cX2_goBy 16 = .ok (.if_icmp .ge 69, 3) := by decide +kernel
theorem dX2_goBy_19 : decode cX2_goBy 19 = .ok (.aload_n 0, 1) := by decide +kernel
theorem dX2_goBy_20 : decode cX2_goBy 20 = .ok (.getfield 36, 3) := by decide +kernel
theorem dX2_goBy_23 : decode cX2_goBy 23 = .ok (.getfield 86, 3) := by decide +kernel
theorem dX2_goBy_26 : decode cX2_goBy 26 = .ok (.ifCond .eq 59, 3) := by decide +kernel
theorem dX2_goBy_29 : decode cX2_goBy 29 = .ok (.aload_n 0, 1) := by decide +kernel
theorem dX2_goBy_30 : decode cX2_goBy 30 = .ok (.getfield 36, 3) := by decide +kernel
theorem dX2_goBy_33 : decode cX2_goBy 33 = .ok (.iconst 0, 1) := by decide +kernel
theorem dX2_goBy_34 : decode cX2_goBy 34 = .ok (.invokevirtual 142, 3) := by decide +kernel
theorem dX2_goBy_37 : decode cX2_goBy 37 = .ok (.invokestatic 146, 3) := by decide +kernel
theorem dX2_goBy_40 : decode cX2_goBy 40 = .ok (.aload_n 0, 1) := by decide +kernel
theorem dX2_goBy_41 : decode cX2_goBy 41 = .ok (.getfield 49, 3) := by decide +kernel
theorem dX2_goBy_44 : decode cX2_goBy 44 = .ok (.if_icmp .le 6, 3) := by decide +kernel
theorem dX2_goBy_47 : decode cX2_goBy 47 = .ok (.goto 38, 3) := by decide +kernel
theorem dX2_goBy_50 : decode cX2_goBy 50 = .ok (.aload_n 0, 1) := by decide +kernel
theorem dX2_goBy_51 : decode cX2_goBy 51 = .ok (.getfield 36, 3) := by decide +kernel
theorem dX2_goBy_54 : decode cX2_goBy 54 = .ok (.iconst 0, 1) := by decide +kernel
theorem dX2_goBy_55 : decode cX2_goBy 55 = .ok (.invokevirtual 142, 3) := by decide +kernel
theorem dX2_goBy_58 : decode cX2_goBy 58 = .ok (.lstore_n 2, 1) := by decide +kernel
theorem dX2_goBy_59 : decode cX2_goBy 59 = .ok (.aload_n 0, 1) := by decide +kernel
theorem dX2_goBy_60 : decode cX2_goBy 60 = .ok (.getfield 36, 3) := by decide +kernel
theorem dX2_goBy_63 : decode cX2_goBy 63 = .ok (.iconst 0, 1) := by decide +kernel
theorem dX2_goBy_64 : decode cX2_goBy 64 = .ok (.invokevirtual 149, 3) := by decide +kernel
theorem dX2_goBy_67 : decode cX2_goBy 67 = .ok (.aload_n 0, 1) := by decide +kernel
theorem dX2_goBy_68 : decode cX2_goBy 68 = .ok (.lload_n 2, 1) := by decide +kernel
theorem dX2_goBy_69 : decode cX2_goBy 69 = .ok (.invokestatic 176, 3) := by decide +kernel
theorem dX2_goBy_72 : decode cX2_goBy 72 = .ok (.lload_n 2, 1) := by decide +kernel
theorem dX2_goBy_73 : decode cX2_goBy 73 = .ok (.invokestatic 161, 3) := by decide +kernel
theorem dX2_goBy_76 : decode cX2_goBy 76 = .ok (.invokevirtual 179, 3) := by decide +kernel
theorem dX2_goBy_79 : decode cX2_goBy 79 = .ok (.iinc 1 1, 3) := by decide +kernel
theorem dX2_goBy_82 : decode cX2_goBy 82 = .ok (.goto (-70), 3) := by decide +kernel
theorem dX2_goBy_85 : decode cX2_goBy 85 = .ok (.aload_n 0, 1) := by decide +kernel
theorem dX2_goBy_86 : decode cX2_goBy 86 = .ok (.invokevirtual 183, 3) := by decide +kernel
theorem dX2_goBy_89 : decode cX2_goBy 89 = .ok (.return_, 1) := by decide +kernel
theorem dX2_come_0 : decode cX2_come 0 = .ok (.iload_n 2, 1) := by decide +kernel
theorem dX2_come_1 : decode cX2_come 1 = .ok (.invokestatic 105, 3) := by decide +kernel
theorem dX2_come_4 : decode cX2_come 4 = .ok (.istore_n 3, 1) := by decide +kernel
theorem dX2_come_5 : decode cX2_come 5 = .ok (.iload_n 1, 1) := by decide +kernel
theorem dX2_come_6 : decode cX2_come 6 = .ok (.iconst 1, 1) := by decide +kernel
theorem dX2_come_7 : decode cX2_come 7 = .ok (.if_icmp .ne 24, 3) := by decide +kernel
theorem dX2_come_10 : decode cX2_come 10 = .ok (.aload_n 0, 1) := by decide +kernel
theorem dX2_come_11 : decode cX2_come 11 = .ok (.getfield 46, 3) := by decide +kernel
theorem dX2_come_14 : decode cX2_come 14 = .ok (.iconst 0, 1) := by decide +kernel
theorem dX2_come_15 : decode cX2_come 15 = .ok (.iconst 0, 1) := by decide +kernel
theorem dX2_come_16 : decode cX2_come 16 = .ok (.iconst 0, 1) := by decide +kernel
theorem dX2_come_17 : decode cX2_come 17 = .ok (.iload_n 3, 1) := by decide +kernel
theorem dX2_come_18 : decode cX2_come 18 = .ok (.invokestatic 109, 3) := by decide +kernel
theorem dX2_come_21 : decode cX2_come 21 = .ok (.invokevirtual 115, 3) := by decide +kernel
theorem dX2_come_24 : decode cX2_come 24 = .ok (.aload_n 0, 1) := by decide +kernel
theorem dX2_come_25 : decode cX2_come 25 = .ok (.invokevirtual 170, 3) := by decide +kernel
theorem dX2_come_28 : decode cX2_come 28 = .ok (.goto 45, 3) := by decide +kernel
theorem dX2_come_31 : decode cX2_come 31 = .ok (.iload_n 1, 1) := by decide +kernel
theorem dX2_come_32 : decode cX2_come 32 = .ok (.iconst 2, 1) := by decide +kernel
theorem dX2_come_33 : decode cX2_come 33 = .ok (.if_icmp .ne 35, 3) := by decide +kernel
theorem dX2_come_36 : decode cX2_come 36 = .ok (.aload_n 0, 1) := by decide +kernel
theorem dX2_come_37 : decode cX2_come 37 = .ok (.dup, 1) := by decide +kernel
theorem dX2_come_38 : decode cX2_come 38 = .ok (.getfield 56, 3) := by decide +kernel
theorem dX2_come_41 : decode cX2_come 41 = .ok (.iconst 1, 1) := by decide +kernel
theorem dX2_come_42 : decode cX2_come 42 = .ok (.isub, 1) := by decide +kernel
theorem dX2_come_43 : decode cX2_come 43 = .ok (.putfield 56, 3) := by decide +kernel
theorem dX2_come_46 : decode cX2_come 46 = .ok (.aload_n 0, 1) := by decide +kernel
theorem dX2_come_47 : decode cX2_come 47 = .ok (.getfield 28, 3) := by decide +kernel
theorem dX2_come_50 : decode cX2_come 50 = .ok (.iload_n 3, 1) := by decide +kernel
theorem dX2_come_51 : decode cX2_come 51 = .ok (.dup2, 1) := by decide +kernel
theorem dX2_come_52 : decode cX2_come 52 = .ok (.iaload, 1) := by decide +kernel
theorem dX2_come_53 : decode cX2_come 53 = .ok (.iconst 1, 1) := by decide +kernel
theorem dX2_come_54 : decode cX2_come 54 = .ok (.iadd, 1) := by decide +kernel
theorem dX2_come_55 : decode cX2_come 55 = .ok (.iastore, 1) := by decide +kernel
theorem dX2_come_56 : decode cX2_come 56 = .ok (.aload_n 0, 1) := by decide +kernel
theorem dX2_come_57 : decode cX2_come 57 = .ok (.iload_n 3, 1) := by decide +kernel
theorem dX2_come_58 : decode cX2_come 58 = .ok (.invokevirtual 132, 3) := by decide +kernel
theorem dX2_come_61 : decode cX2_come 61 = .ok (.aload_n 0, 1) := by decide +kernel
theorem dX2_come_62 : decode cX2_come 62 = .ok (.invokevirtual 170, 3) := by decide +kernel
theorem dX2_come_65 : decode cX2_come 65 = .ok (.goto 8, 3) := by decide +kernel
theorem dX2_come_68 : decode cX2_come 68 = .ok (.aload_n 0, 1) := by decide +kernel
theorem dX2_come_69 : decode cX2_come 69 = .ok (.iload_n 2, 1) := by decide +kernel
theorem dX2_come_70 : decode cX2_come 70 = .ok (.invokevirtual 186, 3) := by decide +kernel
theorem dX2_come_73 : decode cX2_come 73 = .ok (.return_, 1) := by decide +kernel
theorem dX2_lendAll_0 : decode cX2_lendAll 0 = .ok (.aload_n 0, 1) := by decide +kernel
theorem dX2_lendAll_1 : decode cX2_lendAll 1 = .ok (.getfield 40, 3) := by decide +kernel
theorem dX2_lendAll_4 : decode cX2_lendAll 4 = .ok (.getfield 86, 3) := by decide +kernel
theorem dX2_lendAll_7 : decode cX2_lendAll 7 = .ok (.ifCond .eq 10, 3) := by decide +kernel
theorem dX2_lendAll_10 : decode cX2_lendAll 10 = .ok (.aload_n 0, 1) := by decide +kernel
theorem dX2_lendAll_11 : decode cX2_lendAll 11 = .ok (.invokevirtual 189, 3) := by decide +kernel
theorem dX2_lendAll_14 : decode cX2_lendAll 14 = .ok (.ifCond .ne 4, 3) := by decide +kernel
theorem dX2_lendAll_17 : decode cX2_lendAll 17 = .ok (.return_, 1) := by decide +kernel
theorem dX2_lendAll_18 : decode cX2_lendAll 18 = .ok (.iconst 0, 1) := by decide +kernel
theorem dX2_lendAll_19 : decode cX2_lendAll 19 = .ok (.istore_n 1, 1) := by decide +kernel
theorem dX2_lendAll_20 : decode cX2_lendAll 20 = .ok (.iload_n 1, 1) := by decide +kernel
theorem dX2_lendAll_21 : decode cX2_lendAll 21 = .ok (.aload_n 0, 1) := by decide +kernel
theorem dX2_lendAll_22 : decode cX2_lendAll 22 = .ok (.getfield 40, 3) := by decide +kernel
theorem dX2_lendAll_25 : decode cX2_lendAll 25 = .ok (.getfield 86, 3) := by decide +kernel
theorem dX2_lendAll_28 : decode cX2_lendAll 28 = .ok (.if_icmp .ge 72, 3) := by decide +kernel
theorem dX2_lendAll_31 : decode cX2_lendAll 31 = .ok (.aload_n 0, 1) := by decide +kernel
theorem dX2_lendAll_32 : decode cX2_lendAll 32 = .ok (.getfield 40, 3) := by decide +kernel
theorem dX2_lendAll_35 : decode cX2_lendAll 35 = .ok (.iload_n 1, 1) := by decide +kernel
theorem dX2_lendAll_36 : decode cX2_lendAll 36 = .ok (.invokevirtual 142, 3) := by decide +kernel
theorem dX2_lendAll_39 : decode cX2_lendAll 39 = .ok (.lstore_n 2, 1) := by decide +kernel
theorem dX2_lendAll_40 : decode cX2_lendAll 40 = .ok (.lload_n 2, 1) := by decide +kernel
theorem dX2_lendAll_41 : decode cX2_lendAll 41 = .ok (.invokestatic 176, 3) := by decide +kernel
theorem dX2_lendAll_44 : decode cX2_lendAll 44 = .ok (.ifCond .ne 50, 3) := by decide +kernel
theorem dX2_lendAll_47 : decode cX2_lendAll 47 = .ok (.lload_n 2, 1) := by decide +kernel
theorem dX2_lendAll_48 : decode cX2_lendAll 48 = .ok (.invokestatic 161, 3) := by decide +kernel
theorem dX2_lendAll_51 : decode cX2_lendAll 51 = .ok (.istore 4, 2) := by decide +kernel
theorem dX2_lendAll_53 : decode cX2_lendAll 53 = .ok (.aload_n 0, 1) := by decide +kernel
theorem dX2_lendAll_54 : decode cX2_lendAll 54 = .ok (.iload 4, 2) := by decide +kernel
theorem dX2_lendAll_56 : decode cX2_lendAll 56 = .ok (.invokevirtual 193, 3) := by decide +kernel
theorem dX2_lendAll_59 : decode cX2_lendAll 59 = .ok (.istore 5, 2) := by decide +kernel
theorem dX2_lendAll_61 : decode cX2_lendAll 61 = .ok (.iload 5, 2) := by decide +kernel
theorem dX2_lendAll_63 : decode cX2_lendAll 63 = .ok (.iconst (-1), 1) := by decide +kernel
theorem dX2_lendAll_64 : decode cX2_lendAll 64 = .ok (.if_icmp .eq 30, 3) := by decide +kernel
theorem dX2_lendAll_67 : decode cX2_lendAll 67 = .ok (.aload_n 0, 1) := by decide +kernel
theorem dX2_lendAll_68 : decode cX2_lendAll 68 = .ok (.getfield 40, 3) := by decide +kernel
theorem dX2_lendAll_71 : decode cX2_lendAll 71 = .ok (.iload_n 1, 1) := by decide +kernel
theorem dX2_lendAll_72 : decode cX2_lendAll 72 = .ok (.lload_n 2, 1) := by decide +kernel
theorem dX2_lendAll_73 : decode cX2_lendAll 73 = .ok (.invokestatic 146, 3) := by decide +kernel
theorem dX2_lendAll_76 : decode cX2_lendAll 76 = .ok (.iconst 0, 1) := by decide +kernel
theorem dX2_lendAll_77 : decode cX2_lendAll 77 = .ok (.iconst 1, 1) := by decide +kernel
theorem dX2_lendAll_78 : decode cX2_lendAll 78 = .ok (.iload 4, 2) := by decide +kernel
theorem dX2_lendAll_80 : decode cX2_lendAll 80 = .ok (.invokestatic 109, 3) := by decide +kernel
theorem dX2_lendAll_83 : decode cX2_lendAll 83 = .ok (.invokevirtual 196, 3) := by decide +kernel
theorem dX2_lendAll_86 : decode cX2_lendAll 86 = .ok (.aload_n 0, 1) := by decide +kernel
theorem dX2_lendAll_87 : decode cX2_lendAll 87 = .ok (.iload 5, 2) := by decide +kernel
theorem dX2_lendAll_89 : decode cX2_lendAll 89 = .ok (.iload 4, 2) := by decide +kernel
theorem dX2_lendAll_91 : decode cX2_lendAll 91 = .ok (.invokevirtual 200, 3) := by decide +kernel
theorem dX2_lendAll_94 : decode cX2_lendAll 94 = .ok (.iinc 1 1, 3) := by decide +kernel
theorem dX2_lendAll_97 : decode cX2_lendAll 97 = .ok (.goto (-77), 3) := by decide +kernel
theorem dX2_lendAll_100 : decode cX2_lendAll 100 = .ok (.return_, 1) := by decide +kernel
theorem dX2_hasOneToLend_0 : decode cX2_hasOneToLend 0 = .ok (.iconst 0, 1) := by decide +kernel
theorem dX2_hasOneToLend_1 : decode cX2_hasOneToLend 1 = .ok (.istore_n 1, 1) := by decide +kernel
theorem dX2_hasOneToLend_2 : decode cX2_hasOneToLend 2 = .ok (.iload_n 1, 1) := by decide +kernel
theorem dX2_hasOneToLend_3 : decode cX2_hasOneToLend 3 = .ok (.bipush 16, 2) := by decide +kernel
theorem dX2_hasOneToLend_5 : decode cX2_hasOneToLend 5 = .ok (.if_icmp .ge 27, 3) := by decide +kernel
theorem dX2_hasOneToLend_8 : decode cX2_hasOneToLend 8 = .ok (.aload_n 0, 1) := by decide +kernel
theorem dX2_hasOneToLend_9 : decode cX2_hasOneToLend 9 = .ok (.getfield 18, 3) := by decide +kernel
theorem dX2_hasOneToLend_12 : decode cX2_hasOneToLend 12 = .ok (.iload_n 1, 1) := by decide +kernel
theorem dX2_hasOneToLend_13 : decode cX2_hasOneToLend 13 = .ok (.iaload, 1) := by decide +kernel
theorem dX2_hasOneToLend_14 : decode cX2_hasOneToLend 14 = .ok (.aload_n 0, 1) := by decide +kernel
theorem dX2_hasOneToLend_15 : decode cX2_hasOneToLend 15 = .ok (.getfield 12, 3) := by decide +kernel
theorem dX2_hasOneToLend_18 : decode cX2_hasOneToLend 18 = .ok (.getfield 203, 3) := by decide +kernel
theorem dX2_hasOneToLend_21 : decode cX2_hasOneToLend 21 = .ok (.if_icmp .le 5, 3) := by decide +kernel
theorem dX2_hasOneToLend_24 : decode cX2_hasOneToLend 24 = .ok (.iconst 1, 1) := by decide +kernel
theorem dX2_hasOneToLend_25 : decode cX2_hasOneToLend 25 = .ok (.ireturn, 1) := by decide +kernel
theorem dX2_hasOneToLend_26 : decode cX2_hasOneToLend 26 = .ok (.iinc 1 1, 3) := by decide +kernel
theorem dX2_hasOneToLend_29 : decode cX2_hasOneToLend 29 = .ok (.goto (-27), 3) := by decide +kernel
theorem dX2_hasOneToLend_32 : decode cX2_hasOneToLend 32 = .ok (.iconst 0, 1) := by decide +kernel
theorem dX2_hasOneToLend_33 : decode cX2_hasOneToLend 33 = .ok (.ireturn, 1) := by decide +kernel
theorem dX2_lenderFor_0 : decode cX2_lenderFor 0 = .ok (.iload_n 1, 1) := by decide +kernel
theorem dX2_lenderFor_1 : decode cX2_lenderFor 1 = .ok (.invokestatic 105, 3) := by decide +kernel
theorem dX2_lenderFor_4 : decode cX2_lenderFor 4 = .ok (.istore_n 2, 1) := by decide +kernel
theorem dX2_lenderFor_5 : decode cX2_lenderFor 5 = .ok (.iconst (-1), 1) := by decide +kernel
theorem dX2_lenderFor_6 : decode cX2_lenderFor 6 = .ok (.istore_n 3, 1) := by decide +kernel
theorem dX2_lenderFor_7 : decode cX2_lenderFor 7 = .ok (.iconst 0, 1) := by decide +kernel
theorem dX2_lenderFor_8 : decode cX2_lenderFor 8 = .ok (.istore 4, 2) := by decide +kernel
theorem dX2_lenderFor_10 : decode cX2_lenderFor 10 = .ok (.iconst 0, 1) := by decide +kernel
theorem dX2_lenderFor_11 : decode cX2_lenderFor 11 = .ok (.istore 5, 2) := by decide +kernel
theorem dX2_lenderFor_13 : decode cX2_lenderFor 13 = .ok (.iload 5, 2) := by decide +kernel
theorem dX2_lenderFor_15 : decode cX2_lenderFor 15 = .ok (.aload_n 0, 1) := by decide +kernel
theorem dX2_lenderFor_16 : decode cX2_lenderFor 16 = .ok (.getfield 12, 3) := by decide +kernel
theorem dX2_lenderFor_19 : decode cX2_lenderFor 19 = .ok (.getfield 206, 3) := by decide +kernel
theorem dX2_lenderFor_22 : decode cX2_lenderFor 22 = .ok (.if_icmp .ge 81, 3) := by decide +kernel
theorem dX2_lenderFor_25 : decode cX2_lenderFor 25 = .ok (.iload 5, 2) := by decide +kernel
theorem dX2_lenderFor_27 : decode cX2_lenderFor 27 = .ok (.iconst 3, 1) := by decide +kernel
theorem dX2_lenderFor_28 : decode cX2_lenderFor 28 = .ok (.if_icmp .ge 75, 3) := by decide +kernel
theorem dX2_lenderFor_31 : decode cX2_lenderFor 31 = .ok (.iload 5, 2) := by decide +kernel
theorem dX2_lenderFor_33 : decode cX2_lenderFor 33 = .ok (.iload_n 2, 1) := by decide +kernel
theorem dX2_lenderFor_34 : decode cX2_lenderFor 34 = .ok (.invokestatic 209, 3) := by decide +kernel
theorem dX2_lenderFor_37 : decode cX2_lenderFor 37 = .ok (.istore 6, 2) := by decide +kernel
theorem dX2_lenderFor_39 : decode cX2_lenderFor 39 = .ok (.iload 6, 2) := by decide +kernel
theorem dX2_lenderFor_41 : decode cX2_lenderFor 41 = .ok (.iload_n 1, 1) := by decide +kernel
theorem dX2_lenderFor_42 : decode cX2_lenderFor 42 = .ok (.if_icmp .eq 55, 3) := by decide +kernel
theorem dX2_lenderFor_45 : decode cX2_lenderFor 45 = .ok (.aload_n 0, 1) := by decide +kernel
theorem dX2_lenderFor_46 : decode cX2_lenderFor 46 = .ok (.getfield 18, 3) := by decide +kernel
theorem dX2_lenderFor_49 : decode cX2_lenderFor 49 = .ok (.iload 6, 2) := by decide +kernel
theorem dX2_lenderFor_51 : decode cX2_lenderFor 51 = .ok (.iaload, 1) := by decide +kernel
theorem dX2_lenderFor_52 : decode cX2_lenderFor 52 = .ok (.aload_n 0, 1) := by decide +kernel
theorem dX2_lenderFor_53 : decode cX2_lenderFor 53 = .ok (.getfield 12, 3) := by decide +kernel
theorem dX2_lenderFor_56 : decode cX2_lenderFor 56 = .ok (.getfield 203, 3) := by decide +kernel
theorem dX2_lenderFor_59 : decode cX2_lenderFor 59 = .ok (.if_icmp .le 38, 3) := by decide +kernel
theorem dX2_lenderFor_62 : decode cX2_lenderFor 62 = .ok (.iload_n 3, 1) := by decide +kernel
theorem dX2_lenderFor_63 : decode cX2_lenderFor 63 = .ok (.iconst (-1), 1) := by decide +kernel
theorem dX2_lenderFor_64 : decode cX2_lenderFor 64 = .ok (.if_icmp .eq 18, 3) := by decide +kernel
theorem dX2_lenderFor_67 : decode cX2_lenderFor 67 = .ok (.aload_n 0, 1) := by decide +kernel
theorem dX2_lenderFor_68 : decode cX2_lenderFor 68 = .ok (.getfield 12, 3) := by decide +kernel
theorem dX2_lenderFor_71 : decode cX2_lenderFor 71 = .ok (.getfield 126, 3) := by decide +kernel
theorem dX2_lenderFor_74 : decode cX2_lenderFor 74 = .ok (.iload 5, 2) := by decide +kernel
theorem dX2_lenderFor_76 : decode cX2_lenderFor 76 = .ok (.iaload, 1) := by decide +kernel
theorem dX2_lenderFor_77 : decode cX2_lenderFor 77 = .ok (.iload 4, 2) := by decide +kernel
theorem dX2_lenderFor_79 : decode cX2_lenderFor 79 = .ok (.if_icmp .ge 18, 3) := by decide +kernel
theorem dX2_lenderFor_82 : decode cX2_lenderFor 82 = .ok (.iload 6, 2) := by decide +kernel
theorem dX2_lenderFor_84 : decode cX2_lenderFor 84 = .ok (.istore_n 3, 1) := by decide +kernel
theorem dX2_lenderFor_85 : decode cX2_lenderFor 85 = .ok (.aload_n 0, 1) := by decide +kernel
theorem dX2_lenderFor_86 : decode cX2_lenderFor 86 = .ok (.getfield 12, 3) := by decide +kernel
theorem dX2_lenderFor_89 : decode cX2_lenderFor 89 = .ok (.getfield 126, 3) := by decide +kernel
theorem dX2_lenderFor_92 : decode cX2_lenderFor 92 = .ok (.iload 5, 2) := by decide +kernel
theorem dX2_lenderFor_94 : decode cX2_lenderFor 94 = .ok (.iaload, 1) := by decide +kernel
theorem dX2_lenderFor_95 : decode cX2_lenderFor 95 = .ok (.istore 4, 2) := by decide +kernel
theorem dX2_lenderFor_97 : decode cX2_lenderFor 97 = .ok (.iinc 5 1, 3) := by decide +kernel
theorem dX2_lenderFor_100 : decode cX2_lenderFor 100 = .ok (.goto (-87), 3) := by decide +kernel
theorem dX2_lenderFor_103 : decode cX2_lenderFor 103 = .ok (.iload_n 3, 1) := by decide +kernel
theorem dX2_lenderFor_104 : decode cX2_lenderFor 104 = .ok (.ireturn, 1) := by decide +kernel
theorem dX2_lend_0 : decode cX2_lend 0 = .ok (.aload_n 0, 1) := by decide +kernel
theorem dX2_lend_1 : decode cX2_lend 1 = .ok (.getfield 18, 3) := by decide +kernel
theorem dX2_lend_4 : decode cX2_lend 4 = .ok (.iload_n 1, 1) := by decide +kernel
theorem dX2_lend_5 : decode cX2_lend 5 = .ok (.dup2, 1) := by decide +kernel
theorem dX2_lend_6 : decode cX2_lend 6 = .ok (.iaload, 1) := by decide +kernel
theorem dX2_lend_7 : decode cX2_lend 7 = .ok (.iconst 1, 1) := by decide +kernel
theorem dX2_lend_8 : decode cX2_lend 8 = .ok (.isub, 1) := by decide +kernel
theorem dX2_lend_9 : decode cX2_lend 9 = .ok (.iastore, 1) := by decide +kernel
theorem dX2_lend_10 : decode cX2_lend 10 = .ok (.aload_n 0, 1) := by decide +kernel
theorem dX2_lend_11 : decode cX2_lend 11 = .ok (.getfield 25, 3) := by decide +kernel
theorem dX2_lend_14 : decode cX2_lend 14 = .ok (.iload_n 1, 1) := by decide +kernel
theorem dX2_lend_15 : decode cX2_lend 15 = .ok (.dup2, 1) := by decide +kernel
theorem dX2_lend_16 : decode cX2_lend 16 = .ok (.iaload, 1) := by decide +kernel
theorem dX2_lend_17 : decode cX2_lend 17 = .ok (.iconst 1, 1) := by decide +kernel
theorem dX2_lend_18 : decode cX2_lend 18 = .ok (.isub, 1) := by decide +kernel
theorem dX2_lend_19 : decode cX2_lend 19 = .ok (.iastore, 1) := by decide +kernel
theorem dX2_lend_20 : decode cX2_lend 20 = .ok (.aload_n 0, 1) := by decide +kernel
theorem dX2_lend_21 : decode cX2_lend 21 = .ok (.getfield 25, 3) := by decide +kernel
theorem dX2_lend_24 : decode cX2_lend 24 = .ok (.iload_n 2, 1) := by decide +kernel
theorem dX2_lend_25 : decode cX2_lend 25 = .ok (.dup2, 1) := by decide +kernel
theorem dX2_lend_26 : decode cX2_lend 26 = .ok (.iaload, 1) := by decide +kernel
theorem dX2_lend_27 : decode cX2_lend 27 = .ok (.iconst 1, 1) := by decide +kernel
theorem dX2_lend_28 : decode cX2_lend 28 = .ok (.iadd, 1) := by decide +kernel
theorem dX2_lend_29 : decode cX2_lend 29 = .ok (.iastore, 1) := by decide +kernel
theorem dX2_lend_30 : decode cX2_lend 30 = .ok (.aload_n 0, 1) := by decide +kernel
theorem dX2_lend_31 : decode cX2_lend 31 = .ok (.dup, 1) := by decide +kernel
theorem dX2_lend_32 : decode cX2_lend 32 = .ok (.getfield 74, 3) := by decide +kernel
theorem dX2_lend_35 : decode cX2_lend 35 = .ok (.iconst 1, 1) := by decide +kernel
theorem dX2_lend_36 : decode cX2_lend 36 = .ok (.iadd, 1) := by decide +kernel
theorem dX2_lend_37 : decode cX2_lend 37 = .ok (.putfield 74, 3) := by decide +kernel
theorem dX2_lend_40 : decode cX2_lend 40 = .ok (.aload_n 0, 1) := by decide +kernel
theorem dX2_lend_41 : decode cX2_lend 41 = .ok (.iconst 4, 1) := by decide +kernel
theorem dX2_lend_42 : decode cX2_lend 42 = .ok (.iload_n 2, 1) := by decide +kernel
theorem dX2_lend_43 : decode cX2_lend 43 = .ok (.aload_n 0, 1) := by decide +kernel
theorem dX2_lend_44 : decode cX2_lend 44 = .ok (.getfield 12, 3) := by decide +kernel
theorem dX2_lend_47 : decode cX2_lend 47 = .ok (.getfield 126, 3) := by decide +kernel
theorem dX2_lend_50 : decode cX2_lend 50 = .ok (.iload_n 1, 1) := by decide +kernel
theorem dX2_lend_51 : decode cX2_lend 51 = .ok (.invokestatic 129, 3) := by decide +kernel
theorem dX2_lend_54 : decode cX2_lend 54 = .ok (.iaload, 1) := by decide +kernel
theorem dX2_lend_55 : decode cX2_lend 55 = .ok (.aload_n 0, 1) := by decide +kernel
theorem dX2_lend_56 : decode cX2_lend 56 = .ok (.getfield 12, 3) := by decide +kernel
theorem dX2_lend_59 : decode cX2_lend 59 = .ok (.getfield 126, 3) := by decide +kernel
theorem dX2_lend_62 : decode cX2_lend 62 = .ok (.iload_n 2, 1) := by decide +kernel
theorem dX2_lend_63 : decode cX2_lend 63 = .ok (.invokestatic 129, 3) := by decide +kernel
theorem dX2_lend_66 : decode cX2_lend 66 = .ok (.iaload, 1) := by decide +kernel
theorem dX2_lend_67 : decode cX2_lend 67 = .ok (.iadd, 1) := by decide +kernel
theorem dX2_lend_68 : decode cX2_lend 68 = .ok (.invokevirtual 122, 3) := by decide +kernel
theorem dX2_lend_71 : decode cX2_lend 71 = .ok (.return_, 1) := by decide +kernel
theorem dX2_drawDays_0 : decode cX2_drawDays 0 = .ok (.aload_n 0, 1) := by decide +kernel
theorem dX2_drawDays_1 : decode cX2_drawDays 1 = .ok (.getfield 59, 3) := by decide +kernel
theorem dX2_drawDays_4 : decode cX2_drawDays 4 = .ok (.istore_n 3, 1) := by decide +kernel
theorem dX2_drawDays_5 : decode cX2_drawDays 5 = .ok (.iload_n 2, 1) := by decide +kernel
theorem dX2_drawDays_6 : decode cX2_drawDays 6 = .ok (.istore 4, 2) := by decide +kernel
theorem dX2_drawDays_8 : decode cX2_drawDays 8 = .ok (.iconst 0, 1) := by decide +kernel
theorem dX2_drawDays_9 : decode cX2_drawDays 9 = .ok (.istore 5, 2) := by decide +kernel
theorem dX2_drawDays_11 : decode cX2_drawDays 11 = .ok (.iload 5, 2) := by decide +kernel
theorem dX2_drawDays_13 : decode cX2_drawDays 13 = .ok (.iload_n 1, 1) := by decide +kernel
theorem dX2_drawDays_14 : decode cX2_drawDays 14 = .ok (.if_icmp .ge 115, 3) := by decide +kernel
theorem dX2_drawDays_17 : decode cX2_drawDays 17 = .ok (.iconst 0, 1) := by decide +kernel
theorem dX2_drawDays_18 : decode cX2_drawDays 18 = .ok (.istore 6, 2) := by decide +kernel
theorem dX2_drawDays_20 : decode cX2_drawDays 20 = .ok (.iload 6, 2) := by decide +kernel
theorem dX2_drawDays_22 : decode cX2_drawDays 22 = .ok (.aload_n 0, 1) := by decide +kernel
theorem dX2_drawDays_23 : decode cX2_drawDays 23 = .ok (.getfield 12, 3) := by decide +kernel
theorem dX2_drawDays_26 : decode cX2_drawDays 26 = .ok (.getfield 206, 3) := by decide +kernel
theorem dX2_drawDays_29 : decode cX2_drawDays 29 = .ok (.if_icmp .ge 90, 3) := by decide +kernel
theorem dX2_drawDays_32 : decode cX2_drawDays 32 = .ok (.iconst 0, 1) := by decide +kernel
theorem dX2_drawDays_33 : decode cX2_drawDays 33 = .ok (.istore 7, 2) := by decide +kernel
theorem dX2_drawDays_35 : decode cX2_drawDays 35 = .ok (.iload 7, 2) := by decide +kernel
theorem dX2_drawDays_37 : decode cX2_drawDays 37 = .ok (.aload_n 0, 1) := by decide +kernel
theorem dX2_drawDays_38 : decode cX2_drawDays 38 = .ok (.getfield 12, 3) := by decide +kernel
theorem dX2_drawDays_41 : decode cX2_drawDays 41 = .ok (.getfield 212, 3) := by decide +kernel
theorem dX2_drawDays_44 : decode cX2_drawDays 44 = .ok (.if_icmp .ge 69, 3) := by decide +kernel
theorem dX2_drawDays_47 : decode cX2_drawDays 47 = .ok (.iload 4, 2) := by decide +kernel
theorem dX2_drawDays_49 : decode cX2_drawDays 49 = .ok (.ldc 215, 2) := by decide +kernel
theorem dX2_drawDays_51 : decode cX2_drawDays 51 = .ok (.imul, 1) := by decide +kernel
theorem dX2_drawDays_52 : decode cX2_drawDays 52 = .ok (.sipush 12345, 3) := by decide +kernel
theorem dX2_drawDays_55 : decode cX2_drawDays 55 = .ok (.iadd, 1) := by decide +kernel
theorem dX2_drawDays_56 : decode cX2_drawDays 56 = .ok (.istore 4, 2) := by decide +kernel
theorem dX2_drawDays_58 : decode cX2_drawDays 58 = .ok (.iload 6, 2) := by decide +kernel
theorem dX2_drawDays_60 : decode cX2_drawDays 60 = .ok (.iload 7, 2) := by decide +kernel
theorem dX2_drawDays_62 : decode cX2_drawDays 62 = .ok (.invokestatic 209, 3) := by decide +kernel
theorem dX2_drawDays_65 : decode cX2_drawDays 65 = .ok (.bipush 15, 2) := by decide +kernel
theorem dX2_drawDays_67 : decode cX2_drawDays 67 = .ok (.iand, 1) := by decide +kernel
theorem dX2_drawDays_68 : decode cX2_drawDays 68 = .ok (.istore 8, 2) := by decide +kernel
theorem dX2_drawDays_70 : decode cX2_drawDays 70 = .ok (.iload 4, 2) := by decide +kernel
theorem dX2_drawDays_72 : decode cX2_drawDays 72 = .ok (.bipush 8, 2) := by decide +kernel
theorem dX2_drawDays_74 : decode cX2_drawDays 74 = .ok (.iushr, 1) := by decide +kernel
theorem dX2_drawDays_75 : decode cX2_drawDays 75 = .ok (.bipush 12, 2) := by decide +kernel
theorem dX2_drawDays_77 : decode cX2_drawDays 77 = .ok (.irem, 1) := by decide +kernel
theorem dX2_drawDays_78 : decode cX2_drawDays 78 = .ok (.aload_n 0, 1) := by decide +kernel
theorem dX2_drawDays_79 : decode cX2_drawDays 79 = .ok (.getfield 12, 3) := by decide +kernel
theorem dX2_drawDays_82 : decode cX2_drawDays 82 = .ok (.getfield 216, 3) := by decide +kernel
theorem dX2_drawDays_85 : decode cX2_drawDays 85 = .ok (.iload 8, 2) := by decide +kernel
theorem dX2_drawDays_87 : decode cX2_drawDays 87 = .ok (.iaload, 1) := by decide +kernel
theorem dX2_drawDays_88 : decode cX2_drawDays 88 = .ok (.if_icmp .ge 19, 3) := by decide +kernel
theorem dX2_drawDays_91 : decode cX2_drawDays 91 = .ok (.aload_n 0, 1) := by decide +kernel
theorem dX2_drawDays_92 : decode cX2_drawDays 92 = .ok (.iload 8, 2) := by decide +kernel
theorem dX2_drawDays_94 : decode cX2_drawDays 94 = .ok (.invokevirtual 219, 3) := by decide +kernel
theorem dX2_drawDays_97 : decode cX2_drawDays 97 = .ok (.ifCond .eq 10, 3) := by decide +kernel
theorem dX2_drawDays_100 : decode cX2_drawDays 100 = .ok (.aload_n 0, 1) := by decide +kernel
theorem dX2_drawDays_101 : decode cX2_drawDays 101 = .ok (.iload 8, 2) := by decide +kernel
theorem dX2_drawDays_103 : decode cX2_drawDays 103 = .ok (.invokevirtual 223, 3) := by decide +kernel
theorem dX2_drawDays_106 : decode cX2_drawDays 106 = .ok (.pop, 1) := by decide +kernel
theorem dX2_drawDays_107 : decode cX2_drawDays 107 = .ok (.iinc 7 1, 3) := by decide +kernel
theorem dX2_drawDays_110 : decode cX2_drawDays 110 = .ok (.goto (-75), 3) := by decide +kernel
theorem dX2_drawDays_113 : decode cX2_drawDays 113 = .ok (.iinc 6 1, 3) := by decide +kernel
theorem dX2_drawDays_116 : decode cX2_drawDays 116 = .ok (.goto (-96), 3) := by decide +kernel
theorem dX2_drawDays_119 : decode cX2_drawDays 119 = .ok (.aload_n 0, 1) := by decide +kernel
theorem dX2_drawDays_120 : decode cX2_drawDays 120 = .ok (.invokevirtual 226, 3) := by decide +kernel
theorem dX2_drawDays_123 : decode cX2_drawDays 123 = .ok (.iinc 5 1, 3) := by decide +kernel
theorem dX2_drawDays_126 : decode cX2_drawDays 126 = .ok (.goto (-115), 3) := by decide +kernel
theorem dX2_drawDays_129 : decode cX2_drawDays 129 = .ok (.aload_n 0, 1) := by decide +kernel
theorem dX2_drawDays_130 : decode cX2_drawDays 130 = .ok (.getfield 59, 3) := by decide +kernel
theorem dX2_drawDays_133 : decode cX2_drawDays 133 = .ok (.iload_n 3, 1) := by decide +kernel
theorem dX2_drawDays_134 : decode cX2_drawDays 134 = .ok (.isub, 1) := by decide +kernel
theorem dX2_drawDays_135 : decode cX2_drawDays 135 = .ok (.ireturn, 1) := by decide +kernel
theorem dX2_goTillQuiet_0 : decode cX2_goTillQuiet 0 = .ok (.iconst 0, 1) := by decide +kernel
theorem dX2_goTillQuiet_1 : decode cX2_goTillQuiet 1 = .ok (.istore_n 1, 1) := by decide +kernel
theorem dX2_goTillQuiet_2 : decode cX2_goTillQuiet 2 = .ok (.iload_n 1, 1) := by decide +kernel
theorem dX2_goTillQuiet_3 : decode cX2_goTillQuiet 3 = .ok (.sipush 9999, 3) := by decide +kernel
theorem dX2_goTillQuiet_6 : decode cX2_goTillQuiet 6 = .ok (.if_icmp .gt 70, 3) := by decide +kernel
theorem dX2_goTillQuiet_9 : decode cX2_goTillQuiet 9 = .ok (.aload_n 0, 1) := by decide +kernel
theorem dX2_goTillQuiet_10 : decode cX2_goTillQuiet 10 = .ok (.getfield 36, 3) := by decide +kernel
theorem dX2_goTillQuiet_13 : decode cX2_goTillQuiet 13 = .ok (.getfield 86, 3) := by decide +kernel
theorem dX2_goTillQuiet_16 : decode cX2_goTillQuiet 16 = .ok (.ifCond .le 60, 3) := by decide +kernel
theorem dX2_goTillQuiet_19 : decode cX2_goTillQuiet 19 = .ok (.aload_n 0, 1) := by decide +kernel
theorem dX2_goTillQuiet_20 : decode cX2_goTillQuiet 20 = .ok (.getfield 49, 3) := by decide +kernel
theorem dX2_goTillQuiet_23 : decode cX2_goTillQuiet 23 = .ok (.sipush 9999, 3) := by decide +kernel
theorem dX2_goTillQuiet_26 : decode cX2_goTillQuiet 26 = .ok (.if_icmp .lt 6, 3) := by decide +kernel
theorem dX2_goTillQuiet_29 : decode cX2_goTillQuiet 29 = .ok (.bipush (-2), 2) := by decide +kernel
theorem dX2_goTillQuiet_31 : decode cX2_goTillQuiet 31 = .ok (.ireturn, 1) := by decide +kernel
theorem dX2_goTillQuiet_32 : decode cX2_goTillQuiet 32 = .ok (.iload_n 1, 1) := by decide +kernel
theorem dX2_goTillQuiet_33 : decode cX2_goTillQuiet 33 = .ok (.ifCond .le 33, 3) := by decide +kernel
theorem dX2_goTillQuiet_36 : decode cX2_goTillQuiet 36 = .ok (.aload_n 0, 1) := by decide +kernel
theorem dX2_goTillQuiet_37 : decode cX2_goTillQuiet 37 = .ok (.aload_n 0, 1) := by decide +kernel
theorem dX2_goTillQuiet_38 : decode cX2_goTillQuiet 38 = .ok (.getfield 49, 3) := by decide +kernel
theorem dX2_goTillQuiet_41 : decode cX2_goTillQuiet 41 = .ok (.aload_n 0, 1) := by decide +kernel
theorem dX2_goTillQuiet_42 : decode cX2_goTillQuiet 42 = .ok (.getfield 36, 3) := by decide +kernel
theorem dX2_goTillQuiet_45 : decode cX2_goTillQuiet 45 = .ok (.iconst 0, 1) := by decide +kernel
theorem dX2_goTillQuiet_46 : decode cX2_goTillQuiet 46 = .ok (.invokevirtual 142, 3) := by decide +kernel
theorem dX2_goTillQuiet_49 : decode cX2_goTillQuiet 49 = .ok (.invokestatic 146, 3) := by decide +kernel
theorem dX2_goTillQuiet_52 : decode cX2_goTillQuiet 52 = .ok (.iconst 1, 1) := by decide +kernel
theorem dX2_goTillQuiet_53 : decode cX2_goTillQuiet 53 = .ok (.isub, 1) := by decide +kernel
theorem dX2_goTillQuiet_54 : decode cX2_goTillQuiet 54 = .ok (.invokestatic 152, 3) := by decide +kernel
theorem dX2_goTillQuiet_57 : decode cX2_goTillQuiet 57 = .ok (.sipush 9998, 3) := by decide +kernel
theorem dX2_goTillQuiet_60 : decode cX2_goTillQuiet 60 = .ok (.invokestatic 229, 3) := by decide +kernel
theorem dX2_goTillQuiet_63 : decode cX2_goTillQuiet 63 = .ok (.putfield 49, 3) := by decide +kernel
theorem dX2_goTillQuiet_66 : decode cX2_goTillQuiet 66 = .ok (.aload_n 0, 1) := by decide +kernel
theorem dX2_goTillQuiet_67 : decode cX2_goTillQuiet 67 = .ok (.invokevirtual 226, 3) := by decide +kernel
theorem dX2_goTillQuiet_70 : decode cX2_goTillQuiet 70 = .ok (.iinc 1 1, 3) := by decide +kernel
theorem dX2_goTillQuiet_73 : decode cX2_goTillQuiet 73 = .ok (.goto (-71), 3) := by decide +kernel
theorem dX2_goTillQuiet_76 : decode cX2_goTillQuiet 76 = .ok (.aload_n 0, 1) := by decide +kernel
theorem dX2_goTillQuiet_77 : decode cX2_goTillQuiet 77 = .ok (.getfield 36, 3) := by decide +kernel
theorem dX2_goTillQuiet_80 : decode cX2_goTillQuiet 80 = .ok (.getfield 86, 3) := by decide +kernel
theorem dX2_goTillQuiet_83 : decode cX2_goTillQuiet 83 = .ok (.ifCond .ne 10, 3) := by decide +kernel
theorem dX2_goTillQuiet_86 : decode cX2_goTillQuiet 86 = .ok (.aload_n 0, 1) := by decide +kernel
theorem dX2_goTillQuiet_87 : decode cX2_goTillQuiet 87 = .ok (.getfield 49, 3) := by decide +kernel
theorem dX2_goTillQuiet_90 : decode cX2_goTillQuiet 90 = .ok (.goto 5, 3) := by decide +kernel
theorem dX2_goTillQuiet_93 : decode cX2_goTillQuiet 93 = .ok (.bipush (-2), 2) := by decide +kernel
theorem dX2_goTillQuiet_95 : decode cX2_goTillQuiet 95 = .ok (.ireturn, 1) := by decide +kernel
theorem dX2_waysOf_0 : decode cX2_waysOf 0 = .ok (.iconst 0, 1) := by decide +kernel
theorem dX2_waysOf_1 : decode cX2_waysOf 1 = .ok (.istore 4, 2) := by decide +kernel
theorem dX2_waysOf_3 : decode cX2_waysOf 3 = .ok (.iconst 0, 1) := by decide +kernel
theorem dX2_waysOf_4 : decode cX2_waysOf 4 = .ok (.istore 5, 2) := by decide +kernel
theorem dX2_waysOf_6 : decode cX2_waysOf 6 = .ok (.iload 5, 2) := by decide +kernel
theorem dX2_waysOf_8 : decode cX2_waysOf 8 = .ok (.aload_n 0, 1) := by decide +kernel
theorem dX2_waysOf_9 : decode cX2_waysOf 9 = .ok (.getfield 36, 3) := by decide +kernel
theorem dX2_waysOf_12 : decode cX2_waysOf 12 = .ok (.getfield 86, 3) := by decide +kernel
theorem dX2_waysOf_15 : decode cX2_waysOf 15 = .ok (.if_icmp .ge 47, 3) := by decide +kernel
theorem dX2_waysOf_18 : decode cX2_waysOf 18 = .ok (.aload_n 0, 1) := by decide +kernel
theorem dX2_waysOf_19 : decode cX2_waysOf 19 = .ok (.getfield 36, 3) := by decide +kernel
theorem dX2_waysOf_22 : decode cX2_waysOf 22 = .ok (.iload 5, 2) := by decide +kernel
theorem dX2_waysOf_24 : decode cX2_waysOf 24 = .ok (.invokevirtual 142, 3) := by decide +kernel
theorem dX2_waysOf_27 : decode cX2_waysOf 27 = .ok (.lstore 6, 2) := by decide +kernel
theorem dX2_waysOf_29 : decode cX2_waysOf 29 = .ok (.iload_n 1, 1) := by decide +kernel
theorem dX2_waysOf_30 : decode cX2_waysOf 30 = .ok (.lload 6, 2) := by decide +kernel
theorem dX2_waysOf_32 : decode cX2_waysOf 32 = .ok (.invokestatic 176, 3) := by decide +kernel
theorem dX2_waysOf_35 : decode cX2_waysOf 35 = .ok (.iushr, 1) := by decide +kernel
theorem dX2_waysOf_36 : decode cX2_waysOf 36 = .ok (.iconst 1, 1) := by decide +kernel
theorem dX2_waysOf_37 : decode cX2_waysOf 37 = .ok (.iand, 1) := by decide +kernel
theorem dX2_waysOf_38 : decode cX2_waysOf 38 = .ok (.iconst 1, 1) := by decide +kernel
theorem dX2_waysOf_39 : decode cX2_waysOf 39 = .ok (.if_icmp .ne 17, 3) := by decide +kernel
theorem dX2_waysOf_42 : decode cX2_waysOf 42 = .ok (.lload 6, 2) := by decide +kernel
theorem dX2_waysOf_44 : decode cX2_waysOf 44 = .ok (.iload_n 2, 1) := by decide +kernel
theorem dX2_waysOf_45 : decode cX2_waysOf 45 = .ok (.i2l, 1) := by decide +kernel
theorem dX2_waysOf_46 : decode cX2_waysOf 46 = .ok (.land, 1) := by decide +kernel
theorem dX2_waysOf_47 : decode cX2_waysOf 47 = .ok (.iload_n 3, 1) := by decide +kernel
theorem dX2_waysOf_48 : decode cX2_waysOf 48 = .ok (.i2l, 1) := by decide +kernel
theorem dX2_waysOf_49 : decode cX2_waysOf 49 = .ok (.lcmp, 1) := by decide +kernel
theorem dX2_waysOf_50 : decode cX2_waysOf 50 = .ok (.ifCond .ne 6, 3) := by decide +kernel
theorem dX2_waysOf_53 : decode cX2_waysOf 53 = .ok (.iinc 4 1, 3) := by decide +kernel
theorem dX2_waysOf_56 : decode cX2_waysOf 56 = .ok (.iinc 5 1, 3) := by decide +kernel
theorem dX2_waysOf_59 : decode cX2_waysOf 59 = .ok (.goto (-53), 3) := by decide +kernel
theorem dX2_waysOf_62 : decode cX2_waysOf 62 = .ok (.iload 4, 2) := by decide +kernel
theorem dX2_waysOf_64 : decode cX2_waysOf 64 = .ok (.ireturn, 1) := by decide +kernel
theorem dX2_inHand_0 : decode cX2_inHand 0 = .ok (.iconst 0, 1) := by decide +kernel
theorem dX2_inHand_1 : decode cX2_inHand 1 = .ok (.istore_n 2, 1) := by decide +kernel
theorem dX2_inHand_2 : decode cX2_inHand 2 = .ok (.iconst 0, 1) := by decide +kernel
theorem dX2_inHand_3 : decode cX2_inHand 3 = .ok (.istore_n 3, 1) := by decide +kernel
theorem dX2_inHand_4 : decode cX2_inHand 4 = .ok (.iload_n 3, 1) := by decide +kernel
theorem dX2_inHand_5 : decode cX2_inHand 5 = .ok (.aload_n 0, 1) := by decide +kernel
theorem dX2_inHand_6 : decode cX2_inHand 6 = .ok (.getfield 12, 3) := by decide +kernel
theorem dX2_inHand_9 : decode cX2_inHand 9 = .ok (.getfield 212, 3) := by decide +kernel
theorem dX2_inHand_12 : decode cX2_inHand 12 = .ok (.if_icmp .ge 25, 3) := by decide +kernel
theorem dX2_inHand_15 : decode cX2_inHand 15 = .ok (.iload_n 2, 1) := by decide +kernel
theorem dX2_inHand_16 : decode cX2_inHand 16 = .ok (.aload_n 0, 1) := by decide +kernel
theorem dX2_inHand_17 : decode cX2_inHand 17 = .ok (.getfield 18, 3) := by decide +kernel
theorem dX2_inHand_20 : decode cX2_inHand 20 = .ok (.iload_n 1, 1) := by decide +kernel
theorem dX2_inHand_21 : decode cX2_inHand 21 = .ok (.iload_n 3, 1) := by decide +kernel
theorem dX2_inHand_22 : decode cX2_inHand 22 = .ok (.invokestatic 209, 3) := by decide +kernel
theorem dX2_inHand_25 : decode cX2_inHand 25 = .ok (.bipush 15, 2) := by decide +kernel
theorem dX2_inHand_27 : decode cX2_inHand 27 = .ok (.iand, 1) := by decide +kernel
theorem dX2_inHand_28 : decode cX2_inHand 28 = .ok (.iaload, 1) := by decide +kernel
theorem dX2_inHand_29 : decode cX2_inHand 29 = .ok (.iadd, 1) := by decide +kernel
theorem dX2_inHand_30 : decode cX2_inHand 30 = .ok (.istore_n 2, 1) := by decide +kernel
theorem dX2_inHand_31 : decode cX2_inHand 31 = .ok (.iinc 3 1, 3) := by decide +kernel
theorem dX2_inHand_34 : decode cX2_inHand 34 = .ok (.goto (-30), 3) := by decide +kernel
theorem dX2_inHand_37 : decode cX2_inHand 37 = .ok (.iload_n 2, 1) := by decide +kernel
theorem dX2_inHand_38 : decode cX2_inHand 38 = .ok (.ireturn, 1) := by decide +kernel
theorem dX2_late_0 : decode cX2_late 0 = .ok (.aload_n 0, 1) := by decide +kernel
theorem dX2_late_1 : decode cX2_late 1 = .ok (.getfield 68, 3) := by decide +kernel
theorem dX2_late_4 : decode cX2_late 4 = .ok (.istore_n 1, 1) := by decide +kernel
theorem dX2_late_5 : decode cX2_late 5 = .ok (.iconst 0, 1) := by decide +kernel
theorem dX2_late_6 : decode cX2_late 6 = .ok (.istore_n 2, 1) := by decide +kernel
theorem dX2_late_7 : decode cX2_late 7 = .ok (.iload_n 2, 1) := by decide +kernel
theorem dX2_late_8 : decode cX2_late 8 = .ok (.aload_n 0, 1) := by decide +kernel
theorem dX2_late_9 : decode cX2_late 9 = .ok (.getfield 40, 3) := by decide +kernel
theorem dX2_late_12 : decode cX2_late 12 = .ok (.getfield 86, 3) := by decide +kernel
theorem dX2_late_15 : decode cX2_late 15 = .ok (.if_icmp .ge 28, 3) := by decide +kernel
theorem dX2_late_18 : decode cX2_late 18 = .ok (.iload_n 1, 1) := by decide +kernel
theorem dX2_late_19 : decode cX2_late 19 = .ok (.aload_n 0, 1) := by decide +kernel
theorem dX2_late_20 : decode cX2_late 20 = .ok (.getfield 49, 3) := by decide +kernel
theorem dX2_late_23 : decode cX2_late 23 = .ok (.aload_n 0, 1) := by decide +kernel
theorem dX2_late_24 : decode cX2_late 24 = .ok (.getfield 40, 3) := by decide +kernel
theorem dX2_late_27 : decode cX2_late 27 = .ok (.iload_n 2, 1) := by decide +kernel
theorem dX2_late_28 : decode cX2_late 28 = .ok (.invokevirtual 142, 3) := by decide +kernel
theorem dX2_late_31 : decode cX2_late 31 = .ok (.invokestatic 146, 3) := by decide +kernel
theorem dX2_late_34 : decode cX2_late 34 = .ok (.isub, 1) := by decide +kernel
theorem dX2_late_35 : decode cX2_late 35 = .ok (.iadd, 1) := by decide +kernel
theorem dX2_late_36 : decode cX2_late 36 = .ok (.istore_n 1, 1) := by decide +kernel
theorem dX2_late_37 : decode cX2_late 37 = .ok (.iinc 2 1, 3) := by decide +kernel
theorem dX2_late_40 : decode cX2_late 40 = .ok (.goto (-33), 3) := by decide +kernel
theorem dX2_late_43 : decode cX2_late 43 = .ok (.iload_n 1, 1) := by decide +kernel
theorem dX2_late_44 : decode cX2_late 44 = .ok (.ireturn, 1) := by decide +kernel
theorem dX2_longestWait_0 : decode cX2_longestWait 0 = .ok (.aload_n 0, 1) := by decide +kernel
theorem dX2_longestWait_1 : decode cX2_longestWait 1 = .ok (.getfield 40, 3) := by decide +kernel
theorem dX2_longestWait_4 : decode cX2_longestWait 4 = .ok (.getfield 86, 3) := by decide +kernel
theorem dX2_longestWait_7 : decode cX2_longestWait 7 = .ok (.ifCond .ne 10, 3) := by decide +kernel
theorem dX2_longestWait_10 : decode cX2_longestWait 10 = .ok (.aload_n 0, 1) := by decide +kernel
theorem dX2_longestWait_11 : decode cX2_longestWait 11 = .ok (.getfield 71, 3) := by decide +kernel
theorem dX2_longestWait_14 : decode cX2_longestWait 14 = .ok (.goto 26, 3) := by decide +kernel
theorem dX2_longestWait_17 : decode cX2_longestWait 17 = .ok (.aload_n 0, 1) := by decide +kernel
theorem dX2_longestWait_18 : decode cX2_longestWait 18 = .ok (.getfield 71, 3) := by decide +kernel
theorem dX2_longestWait_21 : decode cX2_longestWait 21 = .ok (.aload_n 0, 1) := by decide +kernel
theorem dX2_longestWait_22 : decode cX2_longestWait 22 = .ok (.getfield 49, 3) := by decide +kernel
theorem dX2_longestWait_25 : decode cX2_longestWait 25 = .ok (.aload_n 0, 1) := by decide +kernel
theorem dX2_longestWait_26 : decode cX2_longestWait 26 = .ok (.getfield 40, 3) := by decide +kernel
theorem dX2_longestWait_29 : decode cX2_longestWait 29 = .ok (.iconst 0, 1) := by decide +kernel
theorem dX2_longestWait_30 : decode cX2_longestWait 30 = .ok (.invokevirtual 142, 3) := by decide +kernel
theorem dX2_longestWait_33 : decode cX2_longestWait 33 = .ok (.invokestatic 146, 3) := by decide +kernel
theorem dX2_longestWait_36 : decode cX2_longestWait 36 = .ok (.isub, 1) := by decide +kernel
theorem dX2_longestWait_37 : decode cX2_longestWait 37 = .ok (.invokestatic 152, 3) := by decide +kernel
theorem dX2_longestWait_40 : decode cX2_longestWait 40 = .ok (.ireturn, 1) := by decide +kernel
theorem dX2_tell_0 : decode cX2_tell 0 = .ok (.iload_n 1, 1) := by decide +kernel
theorem dX2_tell_1 : decode cX2_tell 1 = .ok (.tableswitch 123 0 10 #[59, 64, 69, 74, 82, 87, 92, 97, 102, 107, 115], 59) := by decide +kernel
theorem dX2_tell_60 : decode cX2_tell 60 = .ok (.aload_n 0, 1) := by decide +kernel
theorem dX2_tell_61 : decode cX2_tell 61 = .ok (.getfield 49, 3) := by decide +kernel
theorem dX2_tell_64 : decode cX2_tell 64 = .ok (.ireturn, 1) := by decide +kernel
theorem dX2_tell_65 : decode cX2_tell 65 = .ok (.aload_n 0, 1) := by decide +kernel
theorem dX2_tell_66 : decode cX2_tell 66 = .ok (.getfield 59, 3) := by decide +kernel
theorem dX2_tell_69 : decode cX2_tell 69 = .ok (.ireturn, 1) := by decide +kernel
theorem dX2_tell_70 : decode cX2_tell 70 = .ok (.aload_n 0, 1) := by decide +kernel
theorem dX2_tell_71 : decode cX2_tell 71 = .ok (.getfield 62, 3) := by decide +kernel
theorem dX2_tell_74 : decode cX2_tell 74 = .ok (.ireturn, 1) := by decide +kernel
theorem dX2_tell_75 : decode cX2_tell 75 = .ok (.aload_n 0, 1) := by decide +kernel
theorem dX2_tell_76 : decode cX2_tell 76 = .ok (.getfield 40, 3) := by decide +kernel
theorem dX2_tell_79 : decode cX2_tell 79 = .ok (.getfield 86, 3) := by decide +kernel
theorem dX2_tell_82 : decode cX2_tell 82 = .ok (.ireturn, 1) := by decide +kernel
theorem dX2_tell_83 : decode cX2_tell 83 = .ok (.aload_n 0, 1) := by decide +kernel
theorem dX2_tell_84 : decode cX2_tell 84 = .ok (.getfield 65, 3) := by decide +kernel
theorem dX2_tell_87 : decode cX2_tell 87 = .ok (.ireturn, 1) := by decide +kernel
theorem dX2_tell_88 : decode cX2_tell 88 = .ok (.aload_n 0, 1) := by decide +kernel
theorem dX2_tell_89 : decode cX2_tell 89 = .ok (.invokevirtual 232, 3) := by decide +kernel
theorem dX2_tell_92 : decode cX2_tell 92 = .ok (.ireturn, 1) := by decide +kernel
theorem dX2_tell_93 : decode cX2_tell 93 = .ok (.aload_n 0, 1) := by decide +kernel
theorem dX2_tell_94 : decode cX2_tell 94 = .ok (.invokevirtual 236, 3) := by decide +kernel
theorem dX2_tell_97 : decode cX2_tell 97 = .ok (.ireturn, 1) := by decide +kernel
theorem dX2_tell_98 : decode cX2_tell 98 = .ok (.aload_n 0, 1) := by decide +kernel
theorem dX2_tell_99 : decode cX2_tell 99 = .ok (.getfield 74, 3) := by decide +kernel
theorem dX2_tell_102 : decode cX2_tell 102 = .ok (.ireturn, 1) := by decide +kernel
theorem dX2_tell_103 : decode cX2_tell 103 = .ok (.aload_n 0, 1) := by decide +kernel
theorem dX2_tell_104 : decode cX2_tell 104 = .ok (.getfield 77, 3) := by decide +kernel
theorem dX2_tell_107 : decode cX2_tell 107 = .ok (.ireturn, 1) := by decide +kernel
theorem dX2_tell_108 : decode cX2_tell 108 = .ok (.aload_n 0, 1) := by decide +kernel
theorem dX2_tell_109 : decode cX2_tell 109 = .ok (.getfield 36, 3) := by decide +kernel
theorem dX2_tell_112 : decode cX2_tell 112 = .ok (.getfield 86, 3) := by decide +kernel
theorem dX2_tell_115 : decode cX2_tell 115 = .ok (.ireturn, 1) := by decide +kernel
theorem dX2_tell_116 : decode cX2_tell 116 = .ok (.aload_n 0, 1) := by decide +kernel
theorem dX2_tell_117 : decode cX2_tell 117 = .ok (.getfield 46, 3) := by decide +kernel
theorem dX2_tell_120 : decode cX2_tell 120 = .ok (.getfield 86, 3) := by decide +kernel
theorem dX2_tell_123 : decode cX2_tell 123 = .ok (.ireturn, 1) := by decide +kernel
theorem dX2_tell_124 : decode cX2_tell 124 = .ok (.iconst (-1), 1) := by decide +kernel
theorem dX2_tell_125 : decode cX2_tell 125 = .ok (.ireturn, 1) := by decide +kernel
theorem dX3_init_0 : decode cX3_init 0 = .ok (.aload_n 0, 1) := by decide +kernel
theorem dX3_init_1 : decode cX3_init 1 = .ok (.invokespecial 3, 3) := by decide +kernel
theorem dX3_init_4 : decode cX3_init 4 = .ok (.aload_n 0, 1) := by decide +kernel
theorem dX3_init_5 : decode cX3_init 5 = .ok (.new 9, 3) := by decide +kernel
theorem dX3_init_8 : decode cX3_init 8 = .ok (.dup, 1) := by decide +kernel
theorem dX3_init_9 : decode cX3_init 9 = .ok (.invokespecial 11, 3) := by decide +kernel
theorem dX3_init_12 : decode cX3_init 12 = .ok (.putfield 12, 3) := by decide +kernel
theorem dX3_init_15 : decode cX3_init 15 = .ok (.aload_n 0, 1) := by decide +kernel
theorem dX3_init_16 : decode cX3_init 16 = .ok (.iconst 5, 1) := by decide +kernel
theorem dX3_init_17 : decode cX3_init 17 = .ok (.newarray .int, 2) := by decide +kernel
theorem dX3_init_19 : decode cX3_init 19 = .ok (.putfield 20, 3) := by decide +kernel
theorem dX3_init_22 : decode cX3_init 22 = .ok (.aload_n 0, 1) := by decide +kernel
theorem dX3_init_23 : decode cX3_init 23 = .ok (.iconst 0, 1) := by decide +kernel
theorem dX3_init_24 : decode cX3_init 24 = .ok (.newarray .byte, 2) := by decide +kernel
theorem dX3_init_26 : decode cX3_init 26 = .ok (.putfield 24, 3) := by decide +kernel
theorem dX3_init_29 : decode cX3_init 29 = .ok (.aload_n 0, 1) := by decide +kernel
theorem dX3_init_30 : decode cX3_init 30 = .ok (.iconst 0, 1) := by decide +kernel
theorem dX3_init_31 : decode cX3_init 31 = .ok (.putfield 28, 3) := by decide +kernel
theorem dX3_init_34 : decode cX3_init 34 = .ok (.aload_n 0, 1) := by decide +kernel
theorem dX3_init_35 : decode cX3_init 35 = .ok (.iconst 0, 1) := by decide +kernel
theorem dX3_init_36 : decode cX3_init 36 = .ok (.putfield 32, 3) := by decide +kernel
theorem dX3_init_39 : decode cX3_init 39 = .ok (.return_, 1) := by decide +kernel
theorem dX3_readAll_0 : decode cX3_readAll 0 = .ok (.aload_n 0, 1) := by decide +kernel
theorem dX3_readAll_1 : decode cX3_readAll 1 = .ok (.aload_n 1, 1) := by decide +kernel
theorem dX3_readAll_2 : decode cX3_readAll 2 = .ok (.putfield 24, 3) := by decide +kernel
theorem dX3_readAll_5 : decode cX3_readAll 5 = .ok (.aload_n 0, 1) := by decide +kernel
theorem dX3_readAll_6 : decode cX3_readAll 6 = .ok (.iload_n 2, 1) := by decide +kernel
theorem dX3_readAll_7 : decode cX3_readAll 7 = .ok (.aload_n 1, 1) := by decide +kernel
theorem dX3_readAll_8 : decode cX3_readAll 8 = .ok (.arraylength, 1) := by decide +kernel
theorem dX3_readAll_9 : decode cX3_readAll 9 = .ok (.invokestatic 35, 3) := by decide +kernel
theorem dX3_readAll_12 : decode cX3_readAll 12 = .ok (.putfield 28, 3) := by decide +kernel
theorem dX3_readAll_15 : decode cX3_readAll 15 = .ok (.aload_n 0, 1) := by decide +kernel
theorem dX3_readAll_16 : decode cX3_readAll 16 = .ok (.iconst 0, 1) := by decide +kernel
theorem dX3_readAll_17 : decode cX3_readAll 17 = .ok (.putfield 32, 3) := by decide +kernel
theorem dX3_readAll_20 : decode cX3_readAll 20 = .ok (.aload_n 0, 1) := by decide +kernel
theorem dX3_readAll_21 : decode cX3_readAll 21 = .ok (.getfield 12, 3) := by decide +kernel
theorem dX3_readAll_24 : decode cX3_readAll 24 = .ok (.invokevirtual 41, 3) := by decide +kernel
theorem dX3_readAll_27 : decode cX3_readAll 27 = .ok (.iconst 0, 1) := by decide +kernel
theorem dX3_readAll_28 : decode cX3_readAll 28 = .ok (.istore_n 3, 1) := by decide +kernel
theorem dX3_readAll_29 : decode cX3_readAll 29 = .ok (.iload_n 3, 1) := by decide +kernel
theorem dX3_readAll_30 : decode cX3_readAll 30 = .ok (.aload_n 0, 1) := by decide +kernel
theorem dX3_readAll_31 : decode cX3_readAll 31 = .ok (.getfield 28, 3) := by decide +kernel
theorem dX3_readAll_34 : decode cX3_readAll 34 = .ok (.if_icmp .gt 41, 3) := by decide +kernel
theorem dX3_readAll_37 : decode cX3_readAll 37 = .ok (.aload_n 0, 1) := by decide +kernel
theorem dX3_readAll_38 : decode cX3_readAll 38 = .ok (.invokevirtual 44, 3) := by decide +kernel
theorem dX3_readAll_41 : decode cX3_readAll 41 = .ok (.aload_n 0, 1) := by decide +kernel
theorem dX3_readAll_42 : decode cX3_readAll 42 = .ok (.getfield 32, 3) := by decide +kernel
theorem dX3_readAll_45 : decode cX3_readAll 45 = .ok (.aload_n 0, 1) := by decide +kernel
theorem dX3_readAll_46 : decode cX3_readAll 46 = .ok (.getfield 28, 3) := by decide +kernel
theorem dX3_readAll_49 : decode cX3_readAll 49 = .ok (.if_icmp .lt 5, 3) := by decide +kernel
theorem dX3_readAll_52 : decode cX3_readAll 52 = .ok (.iconst (-1), 1) := by decide +kernel
theorem dX3_readAll_53 : decode cX3_readAll 53 = .ok (.ireturn, 1) := by decide +kernel
theorem dX3_readAll_54 : decode cX3_readAll 54 = .ok (.aload_n 0, 1) := by decide +kernel
theorem dX3_readAll_55 : decode cX3_readAll 55 = .ok (.invokevirtual 47, 3) := by decide +kernel
theorem dX3_readAll_58 : decode cX3_readAll 58 = .ok (.istore 4, 2) := by decide +kernel
theorem dX3_readAll_60 : decode cX3_readAll 60 = .ok (.iload 4, 2) := by decide +kernel
theorem dX3_readAll_62 : decode cX3_readAll 62 = .ok (.iconst (-1), 1) := by decide +kernel
theorem dX3_readAll_63 : decode cX3_readAll 63 = .ok (.if_icmp .eq 6, 3) := by decide +kernel
theorem dX3_readAll_66 : decode cX3_readAll 66 = .ok (.iload 4, 2) := by decide +kernel
theorem dX3_readAll_68 : decode cX3_readAll 68 = .ok (.ireturn, 1) := by decide +kernel
theorem dX3_readAll_69 : decode cX3_readAll 69 = .ok (.iinc 3 1, 3) := by decide +kernel
theorem dX3_readAll_72 : decode cX3_readAll 72 = .ok (.goto (-43), 3) := by decide +kernel
theorem dX3_readAll_75 : decode cX3_readAll 75 = .ok (.iconst (-1), 1) := by decide +kernel
theorem dX3_readAll_76 : decode cX3_readAll 76 = .ok (.ireturn, 1) := by decide +kernel
theorem dX3_readOne_0 : decode cX3_readOne 0 = .ok (.aload_n 0, 1) := by decide +kernel
theorem dX3_readOne_1 : decode cX3_readOne 1 = .ok (.getfield 32, 3) := by decide +kernel
theorem dX3_readOne_4 : decode cX3_readOne 4 = .ok (.istore_n 1, 1) := by decide +kernel
theorem dX3_readOne_5 : decode cX3_readOne 5 = .ok (.aload_n 0, 1) := by decide +kernel
theorem dX3_readOne_6 : decode cX3_readOne 6 = .ok (.invokevirtual 51, 3) := by decide +kernel
theorem dX3_readOne_9 : decode cX3_readOne 9 = .ok (.istore_n 2, 1) := by decide +kernel
theorem dX3_readOne_10 : decode cX3_readOne 10 = .ok (.iload_n 2, 1) := by decide +kernel
theorem dX3_readOne_11 : decode cX3_readOne 11 = .ok (.iconst (-1), 1) := by decide +kernel
theorem dX3_readOne_12 : decode cX3_readOne 12 = .ok (.if_icmp .eq 11, 3) := by decide +kernel
theorem dX3_readOne_15 : decode cX3_readOne 15 = .ok (.aload_n 0, 1) := by decide +kernel
theorem dX3_readOne_16 : decode cX3_readOne 16 = .ok (.iload_n 2, 1) := by decide +kernel
theorem dX3_readOne_17 : decode cX3_readOne 17 = .ok (.invokevirtual 54, 3) := by decide +kernel
theorem dX3_readOne_20 : decode cX3_readOne 20 = .ok (.ifCond .eq 5, 3) := by decide +kernel
theorem dX3_readOne_23 : decode cX3_readOne 23 = .ok (.iload_n 1, 1) := by decide +kernel
theorem dX3_readOne_24 : decode cX3_readOne 24 = .ok (.ireturn, 1) := by decide +kernel
theorem dX3_readOne_25 : decode cX3_readOne 25 = .ok (.iconst 0, 1) := by decide +kernel
theorem dX3_readOne_26 : decode cX3_readOne 26 = .ok (.istore_n 3, 1) := by decide +kernel
theorem dX3_readOne_27 : decode cX3_readOne 27 = .ok (.iload_n 3, 1) := by decide +kernel
theorem dX3_readOne_28 : decode cX3_readOne 28 = .ok (.iload_n 2, 1) := by decide +kernel
theorem dX3_readOne_29 : decode cX3_readOne 29 = .ok (.invokestatic 58, 3) := by decide +kernel
theorem dX3_readOne_32 : decode cX3_readOne 32 = .ok (.if_icmp .ge 26, 3) := by decide +kernel
theorem dX3_readOne_35 : decode cX3_readOne 35 = .ok (.aload_n 0, 1) := by decide +kernel
theorem dX3_readOne_36 : decode cX3_readOne 36 = .ok (.iload_n 2, 1) := by decide +kernel
theorem dX3_readOne_37 : decode cX3_readOne 37 = .ok (.iload_n 3, 1) := by decide +kernel
theorem dX3_readOne_38 : decode cX3_readOne 38 = .ok (.invokevirtual 62, 3) := by decide +kernel
theorem dX3_readOne_41 : decode cX3_readOne 41 = .ok (.istore 4, 2) := by decide +kernel
theorem dX3_readOne_43 : decode cX3_readOne 43 = .ok (.iload 4, 2) := by decide +kernel
theorem dX3_readOne_45 : decode cX3_readOne 45 = .ok (.iconst (-1), 1) := by decide +kernel
theorem dX3_readOne_46 : decode cX3_readOne 46 = .ok (.if_icmp .eq 6, 3) := by decide +kernel
theorem dX3_readOne_49 : decode cX3_readOne 49 = .ok (.iload 4, 2) := by decide +kernel
theorem dX3_readOne_51 : decode cX3_readOne 51 = .ok (.ireturn, 1) := by decide +kernel
theorem dX3_readOne_52 : decode cX3_readOne 52 = .ok (.iinc 3 1, 3) := by decide +kernel
theorem dX3_readOne_55 : decode cX3_readOne 55 = .ok (.goto (-28), 3) := by decide +kernel
theorem dX3_readOne_58 : decode cX3_readOne 58 = .ok (.aload_n 0, 1) := by decide +kernel
theorem dX3_readOne_59 : decode cX3_readOne 59 = .ok (.invokevirtual 44, 3) := by decide +kernel
theorem dX3_readOne_62 : decode cX3_readOne 62 = .ok (.aload_n 0, 1) := by decide +kernel
theorem dX3_readOne_63 : decode cX3_readOne 63 = .ok (.getfield 32, 3) := by decide +kernel
theorem dX3_readOne_66 : decode cX3_readOne 66 = .ok (.aload_n 0, 1) := by decide +kernel
theorem dX3_readOne_67 : decode cX3_readOne 67 = .ok (.getfield 28, 3) := by decide +kernel
theorem dX3_readOne_70 : decode cX3_readOne 70 = .ok (.if_icmp .ge 17, 3) := by decide +kernel
theorem dX3_readOne_73 : decode cX3_readOne 73 = .ok (.aload_n 0, 1) := by decide +kernel
theorem dX3_readOne_74 : decode cX3_readOne 74 = .ok (.getfield 24, 3) := by decide +kernel
theorem dX3_readOne_77 : decode cX3_readOne 77 = .ok (.aload_n 0, 1) := by decide +kernel
theorem dX3_readOne_78 : decode cX3_readOne 78 = .ok (.getfield 32, 3) := by decide +kernel
theorem dX3_readOne_81 : decode cX3_readOne 81 = .ok (.baload, 1) := by decide +kernel
theorem dX3_readOne_82 : decode cX3_readOne 82 = .ok (.bipush 59, 2) := by decide +kernel
theorem dX3_readOne_84 : decode cX3_readOne 84 = .ok (.if_icmp .eq 8, 3) := by decide +kernel
theorem dX3_readOne_87 : decode cX3_readOne 87 = .ok (.aload_n 0, 1) := by decide +kernel
theorem dX3_readOne_88 : decode cX3_readOne 88 = .ok (.getfield 32, 3) := by decide +kernel
theorem dX3_readOne_91 : decode cX3_readOne 91 = .ok (.ireturn, 1) := by decide +kernel
theorem dX3_readOne_92 : decode cX3_readOne 92 = .ok (.aload_n 0, 1) := by decide +kernel
theorem dX3_readOne_93 : decode cX3_readOne 93 = .ok (.dup, 1) := by decide +kernel
theorem dX3_readOne_94 : decode cX3_readOne 94 = .ok (.getfield 32, 3) := by decide +kernel
theorem dX3_readOne_97 : decode cX3_readOne 97 = .ok (.iconst 1, 1) := by decide +kernel
theorem dX3_readOne_98 : decode cX3_readOne 98 = .ok (.iadd, 1) := by decide +kernel
theorem dX3_readOne_99 : decode cX3_readOne 99 = .ok (.putfield 32, 3) := by decide +kernel
theorem dX3_readOne_102 : decode cX3_readOne 102 = .ok (.aload_n 0, 1) := by decide +kernel
theorem dX3_readOne_103 : decode cX3_readOne 103 = .ok (.iload_n 2, 1) := by decide +kernel
theorem dX3_readOne_104 : decode cX3_readOne 104 = .ok (.invokevirtual 65, 3) := by decide +kernel
theorem dX3_readOne_107 : decode cX3_readOne 107 = .ok (.iconst (-1), 1) := by decide +kernel
theorem dX3_readOne_108 : decode cX3_readOne 108 = .ok (.ireturn, 1) := by decide +kernel
theorem dX3_isOneTooMany_0 : decode cX3_isOneTooMany 0 = .ok (.iload_n 1, 1) := by decide +kernel
theorem dX3_isOneTooMany_1 : decode cX3_isOneTooMany 1 = .ok (.iconst 3, 1) := by decide +kernel
theorem dX3_isOneTooMany_2 : decode cX3_isOneTooMany 2 = .ok (.if_icmp .ne 14, 3) := by decide +kernel
theorem dX3_isOneTooMany_5 : decode cX3_isOneTooMany 5 = .ok (.aload_n 0, 1) := by decide +kernel
theorem dX3_isOneTooMany_6 : decode cX3_isOneTooMany 6 = .ok (.getfield 12, 3) := by decide +kernel
theorem dX3_isOneTooMany_9 : decode cX3_isOneTooMany 9 = .ok (.getfield 69, 3) := by decide +kernel
theorem dX3_isOneTooMany_12 : decode cX3_isOneTooMany 12 = .ok (.iconst 3, 1) := by decide +kernel
theorem dX3_isOneTooMany_13 : decode cX3_isOneTooMany 13 = .ok (.if_icmp .ge 19, 3) := by decide +kernel
theorem dX3_isOneTooMany_16 : decode cX3_isOneTooMany 16 = .ok (.iload_n 1, 1) := by decide +kernel
theorem dX3_isOneTooMany_17 : decode cX3_isOneTooMany 17 = .ok (.iconst 4, 1) := by decide +kernel
theorem dX3_isOneTooMany_18 : decode cX3_isOneTooMany 18 = .ok (.if_icmp .ne 18, 3) := by decide +kernel
theorem dX3_isOneTooMany_21 : decode cX3_isOneTooMany 21 = .ok (.aload_n 0, 1) := by decide +kernel
theorem dX3_isOneTooMany_22 : decode cX3_isOneTooMany 22 = .ok (.getfield 12, 3) := by decide +kernel
theorem dX3_isOneTooMany_25 : decode cX3_isOneTooMany 25 = .ok (.getfield 72, 3) := by decide +kernel
theorem dX3_isOneTooMany_28 : decode cX3_isOneTooMany 28 = .ok (.iconst 3, 1) := by decide +kernel
theorem dX3_isOneTooMany_29 : decode cX3_isOneTooMany 29 = .ok (.if_icmp .lt 7, 3) := by decide +kernel
theorem dX3_isOneTooMany_32 : decode cX3_isOneTooMany 32 = .ok (.iconst 1, 1) := by decide +kernel
theorem dX3_isOneTooMany_33 : decode cX3_isOneTooMany 33 = .ok (.goto 4, 3) := by decide +kernel
theorem dX3_isOneTooMany_36 : decode cX3_isOneTooMany 36 = .ok (.iconst 0, 1) := by decide +kernel
theorem dX3_isOneTooMany_37 : decode cX3_isOneTooMany 37 = .ok (.ireturn, 1) := by decide +kernel
theorem dX3_skipGaps_0 : decode cX3_skipGaps 0 = .ok (.aload_n 0, 1) := by decide +kernel
theorem dX3_skipGaps_1 : decode cX3_skipGaps 1 = .ok (.getfield 32, 3) := by decide +kernel
theorem dX3_skipGaps_4 : decode cX3_skipGaps 4 = .ok (.aload_n 0, 1) := by decide +kernel
theorem dX3_skipGaps_5 : decode cX3_skipGaps 5 = .ok (.getfield 28, 3) := by decide +kernel
theorem dX3_skipGaps_8 : decode cX3_skipGaps 8 = .ok (.if_icmp .ge 44, 3) := by decide +kernel
theorem dX3_skipGaps_11 : decode cX3_skipGaps 11 = .ok (.aload_n 0, 1) := by decide +kernel
theorem dX3_skipGaps_12 : decode cX3_skipGaps 12 = .ok (.getfield 24, 3) := by decide +kernel
theorem dX3_skipGaps_15 : decode cX3_skipGaps 15 = .ok (.aload_n 0, 1) := by decide +kernel
theorem dX3_skipGaps_16 : decode cX3_skipGaps 16 = .ok (.getfield 32, 3) := by decide +kernel
theorem dX3_skipGaps_19 : decode cX3_skipGaps 19 = .ok (.baload, 1) := by decide +kernel
theorem dX3_skipGaps_20 : decode cX3_skipGaps 20 = .ok (.bipush 32, 2) := by decide +kernel
theorem dX3_skipGaps_22 : decode cX3_skipGaps 22 = .ok (.if_icmp .eq 17, 3) := by decide +kernel
theorem dX3_skipGaps_25 : decode cX3_skipGaps 25 = .ok (.aload_n 0, 1) := by decide +kernel
theorem dX3_skipGaps_26 : decode cX3_skipGaps 26 = .ok (.getfield 24, 3) := by decide +kernel
theorem dX3_skipGaps_29 : decode cX3_skipGaps 29 = .ok (.aload_n 0, 1) := by decide +kernel
theorem dX3_skipGaps_30 : decode cX3_skipGaps 30 = .ok (.getfield 32, 3) := by decide +kernel
theorem dX3_skipGaps_33 : decode cX3_skipGaps 33 = .ok (.baload, 1) := by decide +kernel
theorem dX3_skipGaps_34 : decode cX3_skipGaps 34 = .ok (.bipush 10, 2) := by decide +kernel
theorem dX3_skipGaps_36 : decode cX3_skipGaps 36 = .ok (.if_icmp .ne 16, 3) := by decide +kernel
theorem dX3_skipGaps_39 : decode cX3_skipGaps 39 = .ok (.aload_n 0, 1) := by decide +kernel
theorem dX3_skipGaps_40 : decode cX3_skipGaps 40 = .ok (.dup, 1) := by decide +kernel
theorem dX3_skipGaps_41 : decode cX3_skipGaps 41 = .ok (.getfield 32, 3) := by decide +kernel
theorem dX3_skipGaps_44 : decode cX3_skipGaps 44 = .ok (.iconst 1, 1) := by decide +kernel
theorem dX3_skipGaps_45 : decode cX3_skipGaps 45 = .ok (.iadd, 1) := by decide +kernel
theorem dX3_skipGaps_46 : decode cX3_skipGaps 46 = .ok (.putfield 32, 3) := by decide +kernel
theorem dX3_skipGaps_49 : decode cX3_skipGaps 49 = .ok (.goto (-49), 3) := by decide +kernel
theorem dX3_skipGaps_52 : decode cX3_skipGaps 52 = .ok (.return_, 1) := by decide +kernel
theorem dX3_readWord_0 : decode cX3_readWord 0 = .ok (.aload_n 0, 1) := by decide +kernel
theorem dX3_readWord_1 : decode cX3_readWord 1 = .ok (.getfield 32, 3) := by decide +kernel
theorem dX3_readWord_4 : decode cX3_readWord 4 = .ok (.istore_n 1, 1) := by decide +kernel
theorem dX3_readWord_5 : decode cX3_readWord 5 = .ok (.aload_n 0, 1) := by decide +kernel
theorem dX3_readWord_6 : decode cX3_readWord 6 = .ok (.getfield 32, 3) := by decide +kernel
theorem dX3_readWord_9 : decode cX3_readWord 9 = .ok (.aload_n 0, 1) := by decide +kernel
theorem dX3_readWord_10 : decode cX3_readWord 10 = .ok (.getfield 28, 3) := by decide +kernel
theorem dX3_readWord_13 : decode cX3_readWord 13 = .ok (.if_icmp .ge 44, 3) := by decide +kernel
theorem dX3_readWord_16 : decode cX3_readWord 16 = .ok (.aload_n 0, 1) := by decide +kernel
theorem dX3_readWord_17 : decode cX3_readWord 17 = .ok (.getfield 24, 3) := by decide +kernel
theorem dX3_readWord_20 : decode cX3_readWord 20 = .ok (.aload_n 0, 1) := by decide +kernel
theorem dX3_readWord_21 : decode cX3_readWord 21 = .ok (.getfield 32, 3) := by decide +kernel
theorem dX3_readWord_24 : decode cX3_readWord 24 = .ok (.baload, 1) := by decide +kernel
theorem dX3_readWord_25 : decode cX3_readWord 25 = .ok (.bipush 97, 2) := by decide +kernel
theorem dX3_readWord_27 : decode cX3_readWord 27 = .ok (.if_icmp .lt 30, 3) := by decide +kernel
theorem dX3_readWord_30 : decode cX3_readWord 30 = .ok (.aload_n 0, 1) := by decide +kernel
theorem dX3_readWord_31 : decode cX3_readWord 31 = .ok (.getfield 24, 3) := by decide +kernel
theorem dX3_readWord_34 : decode cX3_readWord 34 = .ok (.aload_n 0, 1) := by decide +kernel
theorem dX3_readWord_35 : decode cX3_readWord 35 = .ok (.getfield 32, 3) := by decide +kernel
theorem dX3_readWord_38 : decode cX3_readWord 38 = .ok (.baload, 1) := by decide +kernel
theorem dX3_readWord_39 : decode cX3_readWord 39 = .ok (.bipush 122, 2) := by decide +kernel
theorem dX3_readWord_41 : decode cX3_readWord 41 = .ok (.if_icmp .gt 16, 3) := by decide +kernel
theorem dX3_readWord_44 : decode cX3_readWord 44 = .ok (.aload_n 0, 1) := by decide +kernel
theorem dX3_readWord_45 : decode cX3_readWord 45 = .ok (.dup, 1) := by decide +kernel
theorem dX3_readWord_46 : decode cX3_readWord 46 = .ok (.getfield 32, 3) := by decide +kernel
theorem dX3_readWord_49 : decode cX3_readWord 49 = .ok (.iconst 1, 1) := by decide +kernel
theorem dX3_readWord_50 : decode cX3_readWord 50 = .ok (.iadd, 1) := by decide +kernel
theorem dX3_readWord_51 : decode cX3_readWord 51 = .ok (.putfield 32, 3) := by decide +kernel
theorem dX3_readWord_54 : decode cX3_readWord 54 = .ok (.goto (-49), 3) := by decide +kernel
theorem dX3_readWord_57 : decode cX3_readWord 57 = .ok (.iconst 0, 1) := by decide +kernel
theorem dX3_readWord_58 : decode cX3_readWord 58 = .ok (.istore_n 2, 1) := by decide +kernel
theorem dX3_readWord_59 : decode cX3_readWord 59 = .ok (.iload_n 2, 1) := by decide +kernel
theorem dX3_readWord_60 : decode cX3_readWord 60 = .ok (.bipush 7, 2) := by decide +kernel
theorem dX3_readWord_62 : decode cX3_readWord 62 = .ok (.if_icmp .ge 23, 3) := by decide +kernel
theorem dX3_readWord_65 : decode cX3_readWord 65 = .ok (.aload_n 0, 1) := by decide +kernel
theorem dX3_readWord_66 : decode cX3_readWord 66 = .ok (.iload_n 2, 1) := by decide +kernel
theorem dX3_readWord_67 : decode cX3_readWord 67 = .ok (.invokestatic 75, 3) := by decide +kernel
theorem dX3_readWord_70 : decode cX3_readWord 70 = .ok (.iload_n 1, 1) := by decide +kernel
theorem dX3_readWord_71 : decode cX3_readWord 71 = .ok (.invokevirtual 79, 3) := by decide +kernel
theorem dX3_readWord_74 : decode cX3_readWord 74 = .ok (.ifCond .eq 5, 3) := by decide +kernel
theorem dX3_readWord_77 : decode cX3_readWord 77 = .ok (.iload_n 2, 1) := by decide +kernel
theorem dX3_readWord_78 : decode cX3_readWord 78 = .ok (.ireturn, 1) := by decide +kernel
theorem dX3_readWord_79 : decode cX3_readWord 79 = .ok (.iinc 2 1, 3) := by decide +kernel
theorem dX3_readWord_82 : decode cX3_readWord 82 = .ok (.goto (-23), 3) := by decide +kernel
theorem dX3_readWord_85 : decode cX3_readWord 85 = .ok (.iconst (-1), 1) := by decide +kernel
theorem dX3_readWord_86 : decode cX3_readWord 86 = .ok (.ireturn, 1) := by decide +kernel
theorem dX3_isSpelled_0 : decode cX3_isSpelled 0 = .ok (.aload_n 0, 1) := by decide +kernel
theorem dX3_isSpelled_1 : decode cX3_isSpelled 1 = .ok (.getfield 32, 3) := by decide +kernel
theorem dX3_isSpelled_4 : decode cX3_isSpelled 4 = .ok (.iload_n 2, 1) := by decide +kernel
theorem dX3_isSpelled_5 : decode cX3_isSpelled 5 = .ok (.isub, 1) := by decide +kernel
theorem dX3_isSpelled_6 : decode cX3_isSpelled 6 = .ok (.aload_n 1, 1) := by decide +kernel
theorem dX3_isSpelled_7 : decode cX3_isSpelled 7 = .ok (.invokevirtual 83, 3) := by decide +kernel
theorem dX3_isSpelled_10 : decode cX3_isSpelled 10 = .ok (.if_icmp .eq 5, 3) := by decide +kernel
theorem dX3_isSpelled_13 : decode cX3_isSpelled 13 = .ok (.iconst 0, 1) := by decide +kernel
theorem dX3_isSpelled_14 : decode cX3_isSpelled 14 = .ok (.ireturn, 1) := by decide +kernel
theorem dX3_isSpelled_15 : decode cX3_isSpelled 15 = .ok (.iconst 0, 1) := by decide +kernel
theorem dX3_isSpelled_16 : decode cX3_isSpelled 16 = .ok (.istore_n 3, 1) := by decide +kernel
theorem dX3_isSpelled_17 : decode cX3_isSpelled 17 = .ok (.iload_n 3, 1) := by decide +kernel
theorem dX3_isSpelled_18 : decode cX3_isSpelled 18 = .ok (.aload_n 1, 1) := by decide +kernel
theorem dX3_isSpelled_19 : decode cX3_isSpelled 19 = .ok (.invokevirtual 83, 3) := by decide +kernel
theorem dX3_isSpelled_22 : decode cX3_isSpelled 22 = .ok (.if_icmp .ge 27, 3) := by decide +kernel
theorem dX3_isSpelled_25 : decode cX3_isSpelled 25 = .ok (.aload_n 0, 1) := by decide +kernel
theorem dX3_isSpelled_26 : decode cX3_isSpelled 26 = .ok (.getfield 24, 3) := by decide +kernel
theorem dX3_isSpelled_29 : decode cX3_isSpelled 29 = .ok (.iload_n 2, 1) := by decide +kernel
theorem dX3_isSpelled_30 : decode cX3_isSpelled 30 = .ok (.iload_n 3, 1) := by decide +kernel
theorem dX3_isSpelled_31 : decode cX3_isSpelled 31 = .ok (.iadd, 1) := by decide +kernel
theorem dX3_isSpelled_32 : decode cX3_isSpelled 32 = .ok (.baload, 1) := by decide +kernel
theorem dX3_isSpelled_33 : decode cX3_isSpelled 33 = .ok (.aload_n 1, 1) := by decide +kernel
theorem dX3_isSpelled_34 : decode cX3_isSpelled 34 = .ok (.iload_n 3, 1) := by decide +kernel
theorem dX3_isSpelled_35 : decode cX3_isSpelled 35 = .ok (.invokevirtual 87, 3) := by decide +kernel
theorem dX3_isSpelled_38 : decode cX3_isSpelled 38 = .ok (.if_icmp .eq 5, 3) := by decide +kernel
theorem dX3_isSpelled_41 : decode cX3_isSpelled 41 = .ok (.iconst 0, 1) := by decide +kernel
theorem dX3_isSpelled_42 : decode cX3_isSpelled 42 = .ok (.ireturn, 1) := by decide +kernel
theorem dX3_isSpelled_43 : decode cX3_isSpelled 43 = .ok (.iinc 3 1, 3) := by decide +kernel
theorem dX3_isSpelled_46 : decode cX3_isSpelled 46 = .ok (.goto (-29), 3) := by decide +kernel
theorem dX3_isSpelled_49 : decode cX3_isSpelled 49 = .ok (.iconst 1, 1) := by decide +kernel
theorem dX3_isSpelled_50 : decode cX3_isSpelled 50 = .ok (.ireturn, 1) := by decide +kernel
theorem dX3_readNumber_0 : decode cX3_readNumber 0 = .ok (.aload_n 0, 1) := by decide +kernel
theorem dX3_readNumber_1 : decode cX3_readNumber 1 = .ok (.getfield 32, 3) := by decide +kernel
theorem dX3_readNumber_4 : decode cX3_readNumber 4 = .ok (.istore_n 3, 1) := by decide +kernel
theorem dX3_readNumber_5 : decode cX3_readNumber 5 = .ok (.aload_n 0, 1) := by decide +kernel
theorem dX3_readNumber_6 : decode cX3_readNumber 6 = .ok (.invokevirtual 44, 3) := by decide +kernel
theorem dX3_readNumber_9 : decode cX3_readNumber 9 = .ok (.aload_n 0, 1) := by decide +kernel
theorem dX3_readNumber_10 : decode cX3_readNumber 10 = .ok (.getfield 32, 3) := by decide +kernel
theorem dX3_readNumber_13 : decode cX3_readNumber 13 = .ok (.istore 4, 2) := by decide +kernel
theorem dX3_readNumber_15 : decode cX3_readNumber 15 = .ok (.iload 4, 2) := by decide +kernel
theorem dX3_readNumber_17 : decode cX3_readNumber 17 = .ok (.iload_n 3, 1) := by decide +kernel
theorem dX3_readNumber_18 : decode cX3_readNumber 18 = .ok (.if_icmp .ne 6, 3) := by decide +kernel
theorem dX3_readNumber_21 : decode cX3_readNumber 21 = .ok (.iload 4, 2) := by decide +kernel
theorem dX3_readNumber_23 : decode cX3_readNumber 23 = .ok (.ireturn, 1) := by decide +kernel
theorem dX3_readNumber_24 : decode cX3_readNumber 24 = .ok (.iconst 0, 1) := by decide +kernel
theorem dX3_readNumber_25 : decode cX3_readNumber 25 = .ok (.istore 5, 2) := by decide +kernel
theorem dX3_readNumber_27 : decode cX3_readNumber 27 = .ok (.aload_n 0, 1) := by decide +kernel
theorem dX3_readNumber_28 : decode cX3_readNumber 28 = .ok (.getfield 32, 3) := by decide +kernel
theorem dX3_readNumber_31 : decode cX3_readNumber 31 = .ok (.aload_n 0, 1) := by decide +kernel
theorem dX3_readNumber_32 : decode cX3_readNumber 32 = .ok (.getfield 28, 3) := by decide +kernel
theorem dX3_readNumber_35 : decode cX3_readNumber 35 = .ok (.if_icmp .ge 64, 3) := by decide +kernel
theorem dX3_readNumber_38 : decode cX3_readNumber 38 = .ok (.aload_n 0, 1) := by decide +kernel
theorem dX3_readNumber_39 : decode cX3_readNumber 39 = .ok (.getfield 24, 3) := by decide +kernel
theorem dX3_readNumber_42 : decode cX3_readNumber 42 = .ok (.aload_n 0, 1) := by decide +kernel
theorem dX3_readNumber_43 : decode cX3_readNumber 43 = .ok (.getfield 32, 3) := by decide +kernel
theorem dX3_readNumber_46 : decode cX3_readNumber 46 = .ok (.baload, 1) := by decide +kernel
theorem dX3_readNumber_47 : decode cX3_readNumber 47 = .ok (.bipush 48, 2) := by decide +kernel
theorem dX3_readNumber_49 : decode cX3_readNumber 49 = .ok (.if_icmp .lt 50, 3) := by decide +kernel
theorem dX3_readNumber_52 : decode cX3_readNumber 52 = .ok (.aload_n 0, 1) := by decide +kernel
theorem dX3_readNumber_53 : decode cX3_readNumber 53 = .ok (.getfield 24, 3) := by decide +kernel
theorem dX3_readNumber_56 : decode cX3_readNumber 56 = .ok (.aload_n 0, 1) := by decide +kernel
theorem dX3_readNumber_57 : decode cX3_readNumber 57 = .ok (.getfield 32, 3) := by decide +kernel
theorem dX3_readNumber_60 : decode cX3_readNumber 60 = .ok (.baload, 1) := by decide +kernel
theorem dX3_readNumber_61 : decode cX3_readNumber 61 = .ok (.bipush 57, 2) := by decide +kernel
theorem dX3_readNumber_63 : decode cX3_readNumber 63 = .ok (.if_icmp .gt 36, 3) := by decide +kernel
theorem dX3_readNumber_66 : decode cX3_readNumber 66 = .ok (.iload 5, 2) := by decide +kernel
theorem dX3_readNumber_68 : decode cX3_readNumber 68 = .ok (.bipush 10, 2) := by decide +kernel
theorem dX3_readNumber_70 : decode cX3_readNumber 70 = .ok (.imul, 1) := by decide +kernel
theorem dX3_readNumber_71 : decode cX3_readNumber 71 = .ok (.aload_n 0, 1) := by decide +kernel
theorem dX3_readNumber_72 : decode cX3_readNumber 72 = .ok (.getfield 24, 3) := by decide +kernel
theorem dX3_readNumber_75 : decode cX3_readNumber 75 = .ok (.aload_n 0, 1) := by decide +kernel
theorem dX3_readNumber_76 : decode cX3_readNumber 76 = .ok (.getfield 32, 3) := by decide +kernel
theorem dX3_readNumber_79 : decode cX3_readNumber 79 = .ok (.baload, 1) := by decide +kernel
theorem dX3_readNumber_80 : decode cX3_readNumber 80 = .ok (.bipush 48, 2) := by decide +kernel
theorem dX3_readNumber_82 : decode cX3_readNumber 82 = .ok (.isub, 1) := by decide +kernel
theorem dX3_readNumber_83 : decode cX3_readNumber 83 = .ok (.iadd, 1) := by decide +kernel
theorem dX3_readNumber_84 : decode cX3_readNumber 84 = .ok (.istore 5, 2) := by decide +kernel
theorem dX3_readNumber_86 : decode cX3_readNumber 86 = .ok (.aload_n 0, 1) := by decide +kernel
theorem dX3_readNumber_87 : decode cX3_readNumber 87 = .ok (.dup, 1) := by decide +kernel
theorem dX3_readNumber_88 : decode cX3_readNumber 88 = .ok (.getfield 32, 3) := by decide +kernel
theorem dX3_readNumber_91 : decode cX3_readNumber 91 = .ok (.iconst 1, 1) := by decide +kernel
theorem dX3_readNumber_92 : decode cX3_readNumber 92 = .ok (.iadd, 1) := by decide +kernel
theorem dX3_readNumber_93 : decode cX3_readNumber 93 = .ok (.putfield 32, 3) := by decide +kernel
theorem dX3_readNumber_96 : decode cX3_readNumber 96 = .ok (.goto (-69), 3) := by decide +kernel
theorem dX3_readNumber_99 : decode cX3_readNumber 99 = .ok (.aload_n 0, 1) := by decide +kernel
theorem dX3_readNumber_100 : decode cX3_readNumber 100 = .ok (.getfield 32, 3) := by decide +kernel
theorem dX3_readNumber_103 : decode cX3_readNumber 103 = .ok (.iload 4, 2) := by decide +kernel
theorem dX3_readNumber_105 : decode cX3_readNumber 105 = .ok (.isub, 1) := by decide +kernel
theorem dX3_readNumber_106 : decode cX3_readNumber 106 = .ok (.istore 6, 2) := by decide +kernel
theorem dX3_readNumber_108 : decode cX3_readNumber 108 = .ok (.iload 6, 2) := by decide +kernel
theorem dX3_readNumber_110 : decode cX3_readNumber 110 = .ok (.iconst 1, 1) := by decide +kernel
theorem dX3_readNumber_111 : decode cX3_readNumber 111 = .ok (.if_icmp .lt 23, 3) := by decide +kernel
theorem dX3_readNumber_114 : decode cX3_readNumber 114 = .ok (.iload 6, 2) := by decide +kernel
theorem dX3_readNumber_116 : decode cX3_readNumber 116 = .ok (.iconst 2, 1) := by decide +kernel
theorem dX3_readNumber_117 : decode cX3_readNumber 117 = .ok (.if_icmp .gt 17, 3) := by decide +kernel
theorem dX3_readNumber_120 : decode cX3_readNumber 120 = .ok (.iload_n 1, 1) := by decide +kernel
theorem dX3_readNumber_121 : decode cX3_readNumber 121 = .ok (.iload_n 2, 1) := by decide +kernel
theorem dX3_readNumber_122 : decode cX3_readNumber 122 = .ok (.iload 5, 2) := by decide +kernel
theorem dX3_readNumber_124 : decode cX3_readNumber 124 = .ok (.aload_n 0, 1) := by decide +kernel
theorem dX3_readNumber_125 : decode cX3_readNumber 125 = .ok (.getfield 12, 3) := by decide +kernel
theorem dX3_readNumber_128 : decode cX3_readNumber 128 = .ok (.invokestatic 91, 3) := by decide +kernel
theorem dX3_readNumber_131 : decode cX3_readNumber 131 = .ok (.ifCond .ne 6, 3) := by decide +kernel
theorem dX3_readNumber_134 : decode cX3_readNumber 134 = .ok (.iload 4, 2) := by decide +kernel
theorem dX3_readNumber_136 : decode cX3_readNumber 136 = .ok (.ireturn, 1) := by decide +kernel
theorem dX3_readNumber_137 : decode cX3_readNumber 137 = .ok (.iload_n 2, 1) := by decide +kernel
theorem dX3_readNumber_138 : decode cX3_readNumber 138 = .ok (.ifCond .lt 20, 3) := by decide +kernel
theorem dX3_readNumber_141 : decode cX3_readNumber 141 = .ok (.iload_n 2, 1) := by decide +kernel
theorem dX3_readNumber_142 : decode cX3_readNumber 142 = .ok (.aload_n 0, 1) := by decide +kernel
theorem dX3_readNumber_143 : decode cX3_readNumber 143 = .ok (.getfield 20, 3) := by decide +kernel
theorem dX3_readNumber_146 : decode cX3_readNumber 146 = .ok (.arraylength, 1) := by decide +kernel
theorem dX3_readNumber_147 : decode cX3_readNumber 147 = .ok (.if_icmp .ge 11, 3) := by decide +kernel
theorem dX3_readNumber_150 : decode cX3_readNumber 150 = .ok (.aload_n 0, 1) := by decide +kernel
theorem dX3_readNumber_151 : decode cX3_readNumber 151 = .ok (.getfield 20, 3) := by decide +kernel
theorem dX3_readNumber_154 : decode cX3_readNumber 154 = .ok (.iload_n 2, 1) := by decide +kernel
theorem dX3_readNumber_155 : decode cX3_readNumber 155 = .ok (.iload 5, 2) := by decide +kernel
theorem dX3_readNumber_157 : decode cX3_readNumber 157 = .ok (.iastore, 1) := by decide +kernel
theorem dX3_readNumber_158 : decode cX3_readNumber 158 = .ok (.iconst (-1), 1) := by decide +kernel
theorem dX3_readNumber_159 : decode cX3_readNumber 159 = .ok (.ireturn, 1) := by decide +kernel
theorem dX3_take_0 : decode cX3_take 0 = .ok (.iload_n 1, 1) := by decide +kernel
theorem dX3_take_1 : decode cX3_take 1 = .ok (.tableswitch 108 0 5 #[39, 55, 71, 87, 94, 101], 39) := by decide +kernel
theorem dX3_take_40 : decode cX3_take 40 = .ok (.aload_n 0, 1) := by decide +kernel
theorem dX3_take_41 : decode cX3_take 41 = .ok (.getfield 12, 3) := by decide +kernel
theorem dX3_take_44 : decode cX3_take 44 = .ok (.aload_n 0, 1) := by decide +kernel
theorem dX3_take_45 : decode cX3_take 45 = .ok (.getfield 20, 3) := by decide +kernel
theorem dX3_take_48 : decode cX3_take 48 = .ok (.iconst 0, 1) := by decide +kernel
theorem dX3_take_49 : decode cX3_take 49 = .ok (.iaload, 1) := by decide +kernel
theorem dX3_take_50 : decode cX3_take 50 = .ok (.putfield 95, 3) := by decide +kernel
theorem dX3_take_53 : decode cX3_take 53 = .ok (.goto 78, 3) := by decide +kernel
theorem dX3_take_56 : decode cX3_take 56 = .ok (.aload_n 0, 1) := by decide +kernel
theorem dX3_take_57 : decode cX3_take 57 = .ok (.getfield 12, 3) := by decide +kernel
theorem dX3_take_60 : decode cX3_take 60 = .ok (.aload_n 0, 1) := by decide +kernel
theorem dX3_take_61 : decode cX3_take 61 = .ok (.getfield 20, 3) := by decide +kernel
theorem dX3_take_64 : decode cX3_take 64 = .ok (.iconst 0, 1) := by decide +kernel
theorem dX3_take_65 : decode cX3_take 65 = .ok (.iaload, 1) := by decide +kernel
theorem dX3_take_66 : decode cX3_take 66 = .ok (.putfield 98, 3) := by decide +kernel
theorem dX3_take_69 : decode cX3_take 69 = .ok (.goto 62, 3) := by decide +kernel
theorem dX3_take_72 : decode cX3_take 72 = .ok (.aload_n 0, 1) := by decide +kernel
theorem dX3_take_73 : decode cX3_take 73 = .ok (.getfield 12, 3) := by decide +kernel
theorem dX3_take_76 : decode cX3_take 76 = .ok (.aload_n 0, 1) := by decide +kernel
theorem dX3_take_77 : decode cX3_take 77 = .ok (.getfield 20, 3) := by decide +kernel
theorem dX3_take_80 : decode cX3_take 80 = .ok (.iconst 0, 1) := by decide +kernel
theorem dX3_take_81 : decode cX3_take 81 = .ok (.iaload, 1) := by decide +kernel
theorem dX3_take_82 : decode cX3_take 82 = .ok (.putfield 101, 3) := by decide +kernel
theorem dX3_take_85 : decode cX3_take 85 = .ok (.goto 46, 3) := by decide +kernel
theorem dX3_take_88 : decode cX3_take 88 = .ok (.aload_n 0, 1) := by decide +kernel
theorem dX3_take_89 : decode cX3_take 89 = .ok (.invokevirtual 104, 3) := by decide +kernel
theorem dX3_take_92 : decode cX3_take 92 = .ok (.goto 39, 3) := by decide +kernel
theorem dX3_take_95 : decode cX3_take 95 = .ok (.aload_n 0, 1) := by decide +kernel
theorem dX3_take_96 : decode cX3_take 96 = .ok (.invokevirtual 107, 3) := by decide +kernel
theorem dX3_take_99 : decode cX3_take 99 = .ok (.goto 32, 3) := by decide +kernel
theorem dX3_take_102 : decode cX3_take 102 = .ok (.aload_n 0, 1) := by decide +kernel
theorem dX3_take_103 : decode cX3_take 103 = .ok (.invokevirtual 110, 3) := by decide +kernel
theorem dX3_take_106 : decode cX3_take 106 = .ok (.goto 25, 3) := by decide +kernel
theorem dX3_take_109 : decode cX3_take 109 = .ok (.aload_n 0, 1) := by decide +kernel
theorem dX3_take_110 : decode cX3_take 110 = .ok (.getfield 12, 3) := by decide +kernel
theorem dX3_take_113 : decode cX3_take 113 = .ok (.getfield 113, 3) := by decide +kernel
theorem dX3_take_116 : decode cX3_take 116 = .ok (.aload_n 0, 1) := by decide +kernel
theorem dX3_take_117 : decode cX3_take 117 = .ok (.getfield 20, 3) := by decide +kernel
theorem dX3_take_120 : decode cX3_take 120 = .ok (.iconst 0, 1) := by decide +kernel
theorem dX3_take_121 : decode cX3_take 121 = .ok (.iaload, 1) := by decide +kernel
theorem dX3_take_122 : decode cX3_take 122 = .ok (.iconst 3, 1) := by decide +kernel
theorem dX3_take_123 : decode cX3_take 123 = .ok (.iand, 1) := by decide +kernel
theorem dX3_take_124 : decode cX3_take 124 = .ok (.aload_n 0, 1) := by decide +kernel
theorem dX3_take_125 : decode cX3_take 125 = .ok (.getfield 20, 3) := by decide +kernel
theorem dX3_take_128 : decode cX3_take 128 = .ok (.iconst 1, 1) := by decide +kernel
theorem dX3_take_129 : decode cX3_take 129 = .ok (.iaload, 1) := by decide +kernel
theorem dX3_take_130 : decode cX3_take 130 = .ok (.iastore, 1) := by decide +kernel
theorem dX3_take_131 : decode cX3_take 131 = .ok (.return_, 1) := by decide +kernel
theorem dX3_takePart_0 : decode cX3_takePart 0 = .ok (.aload_n 0, 1) := by decide +kernel
theorem dX3_takePart_1 : decode cX3_takePart 1 = .ok (.getfield 12, 3) := by decide +kernel
theorem dX3_takePart_4 : decode cX3_takePart 4 = .ok (.getfield 69, 3) := by decide +kernel
theorem dX3_takePart_7 : decode cX3_takePart 7 = .ok (.iconst 3, 1) := by decide +kernel
theorem dX3_takePart_8 : decode cX3_takePart 8 = .ok (.iand, 1) := by decide +kernel
theorem dX3_takePart_9 : decode cX3_takePart 9 = .ok (.istore_n 1, 1) := by decide +kernel
theorem dX3_takePart_10 : decode cX3_takePart 10 = .ok (.aload_n 0, 1) := by decide +kernel
theorem dX3_takePart_11 : decode cX3_takePart 11 = .ok (.getfield 12, 3) := by decide +kernel
theorem dX3_takePart_14 : decode cX3_takePart 14 = .ok (.getfield 116, 3) := by decide +kernel
theorem dX3_takePart_17 : decode cX3_takePart 17 = .ok (.iload_n 1, 1) := by decide +kernel
theorem dX3_takePart_18 : decode cX3_takePart 18 = .ok (.aload_n 0, 1) := by decide +kernel
theorem dX3_takePart_19 : decode cX3_takePart 19 = .ok (.getfield 20, 3) := by decide +kernel
theorem dX3_takePart_22 : decode cX3_takePart 22 = .ok (.iconst 0, 1) := by decide +kernel
theorem dX3_takePart_23 : decode cX3_takePart 23 = .ok (.iaload, 1) := by decide +kernel
theorem dX3_takePart_24 : decode cX3_takePart 24 = .ok (.iastore, 1) := by decide +kernel
theorem dX3_takePart_25 : decode cX3_takePart 25 = .ok (.aload_n 0, 1) := by decide +kernel
theorem dX3_takePart_26 : decode cX3_takePart 26 = .ok (.getfield 12, 3) := by decide +kernel
theorem dX3_takePart_29 : decode cX3_takePart 29 = .ok (.getfield 119, 3) := by decide +kernel
theorem dX3_takePart_32 : decode cX3_takePart 32 = .ok (.iload_n 1, 1) := by decide +kernel
theorem dX3_takePart_33 : decode cX3_takePart 33 = .ok (.aload_n 0, 1) := by decide +kernel
theorem dX3_takePart_34 : decode cX3_takePart 34 = .ok (.getfield 20, 3) := by decide +kernel
theorem dX3_takePart_37 : decode cX3_takePart 37 = .ok (.iconst 1, 1) := by decide +kernel
theorem dX3_takePart_38 : decode cX3_takePart 38 = .ok (.iaload, 1) := by decide +kernel
theorem dX3_takePart_39 : decode cX3_takePart 39 = .ok (.iastore, 1) := by decide +kernel
theorem dX3_takePart_40 : decode cX3_takePart 40 = .ok (.aload_n 0, 1) := by decide +kernel
theorem dX3_takePart_41 : decode cX3_takePart 41 = .ok (.getfield 12, 3) := by decide +kernel
theorem dX3_takePart_44 : decode cX3_takePart 44 = .ok (.getfield 122, 3) := by decide +kernel
theorem dX3_takePart_47 : decode cX3_takePart 47 = .ok (.iload_n 1, 1) := by decide +kernel
theorem dX3_takePart_48 : decode cX3_takePart 48 = .ok (.aload_n 0, 1) := by decide +kernel
theorem dX3_takePart_49 : decode cX3_takePart 49 = .ok (.getfield 20, 3) := by decide +kernel
theorem dX3_takePart_52 : decode cX3_takePart 52 = .ok (.iconst 2, 1) := by decide +kernel
theorem dX3_takePart_53 : decode cX3_takePart 53 = .ok (.iaload, 1) := by decide +kernel
theorem dX3_takePart_54 : decode cX3_takePart 54 = .ok (.iastore, 1) := by decide +kernel
theorem dX3_takePart_55 : decode cX3_takePart 55 = .ok (.aload_n 0, 1) := by decide +kernel
theorem dX3_takePart_56 : decode cX3_takePart 56 = .ok (.getfield 12, 3) := by decide +kernel
theorem dX3_takePart_59 : decode cX3_takePart 59 = .ok (.dup, 1) := by decide +kernel
theorem dX3_takePart_60 : decode cX3_takePart 60 = .ok (.getfield 69, 3) := by decide +kernel
theorem dX3_takePart_63 : decode cX3_takePart 63 = .ok (.iconst 1, 1) := by decide +kernel
theorem dX3_takePart_64 : decode cX3_takePart 64 = .ok (.iadd, 1) := by decide +kernel
theorem dX3_takePart_65 : decode cX3_takePart 65 = .ok (.putfield 69, 3) := by decide +kernel
theorem dX3_takePart_68 : decode cX3_takePart 68 = .ok (.return_, 1) := by decide +kernel
theorem dX3_takeBase_0 : decode cX3_takeBase 0 = .ok (.aload_n 0, 1) := by decide +kernel
theorem dX3_takeBase_1 : decode cX3_takeBase 1 = .ok (.getfield 12, 3) := by decide +kernel
theorem dX3_takeBase_4 : decode cX3_takeBase 4 = .ok (.getfield 125, 3) := by decide +kernel
theorem dX3_takeBase_7 : decode cX3_takeBase 7 = .ok (.aload_n 0, 1) := by decide +kernel
theorem dX3_takeBase_8 : decode cX3_takeBase 8 = .ok (.getfield 12, 3) := by decide +kernel
theorem dX3_takeBase_11 : decode cX3_takeBase 11 = .ok (.getfield 72, 3) := by decide +kernel
theorem dX3_takeBase_14 : decode cX3_takeBase 14 = .ok (.iconst 3, 1) := by decide +kernel
theorem dX3_takeBase_15 : decode cX3_takeBase 15 = .ok (.iand, 1) := by decide +kernel
theorem dX3_takeBase_16 : decode cX3_takeBase 16 = .ok (.aload_n 0, 1) := by decide +kernel
theorem dX3_takeBase_17 : decode cX3_takeBase 17 = .ok (.getfield 20, 3) := by decide +kernel
theorem dX3_takeBase_20 : decode cX3_takeBase 20 = .ok (.iconst 0, 1) := by decide +kernel
theorem dX3_takeBase_21 : decode cX3_takeBase 21 = .ok (.iaload, 1) := by decide +kernel
theorem dX3_takeBase_22 : decode cX3_takeBase 22 = .ok (.iastore, 1) := by decide +kernel
theorem dX3_takeBase_23 : decode cX3_takeBase 23 = .ok (.aload_n 0, 1) := by decide +kernel
theorem dX3_takeBase_24 : decode cX3_takeBase 24 = .ok (.getfield 12, 3) := by decide +kernel
theorem dX3_takeBase_27 : decode cX3_takeBase 27 = .ok (.dup, 1) := by decide +kernel
theorem dX3_takeBase_28 : decode cX3_takeBase 28 = .ok (.getfield 72, 3) := by decide +kernel
theorem dX3_takeBase_31 : decode cX3_takeBase 31 = .ok (.iconst 1, 1) := by decide +kernel
theorem dX3_takeBase_32 : decode cX3_takeBase 32 = .ok (.iadd, 1) := by decide +kernel
theorem dX3_takeBase_33 : decode cX3_takeBase 33 = .ok (.putfield 72, 3) := by decide +kernel
theorem dX3_takeBase_36 : decode cX3_takeBase 36 = .ok (.return_, 1) := by decide +kernel
theorem dX3_takeCell_0 : decode cX3_takeCell 0 = .ok (.aload_n 0, 1) := by decide +kernel
theorem dX3_takeCell_1 : decode cX3_takeCell 1 = .ok (.getfield 20, 3) := by decide +kernel
theorem dX3_takeCell_4 : decode cX3_takeCell 4 = .ok (.iconst 0, 1) := by decide +kernel
theorem dX3_takeCell_5 : decode cX3_takeCell 5 = .ok (.iaload, 1) := by decide +kernel
theorem dX3_takeCell_6 : decode cX3_takeCell 6 = .ok (.aload_n 0, 1) := by decide +kernel
theorem dX3_takeCell_7 : decode cX3_takeCell 7 = .ok (.getfield 20, 3) := by decide +kernel
theorem dX3_takeCell_10 : decode cX3_takeCell 10 = .ok (.iconst 1, 1) := by decide +kernel
theorem dX3_takeCell_11 : decode cX3_takeCell 11 = .ok (.iaload, 1) := by decide +kernel
theorem dX3_takeCell_12 : decode cX3_takeCell 12 = .ok (.invokestatic 128, 3) := by decide +kernel
theorem dX3_takeCell_15 : decode cX3_takeCell 15 = .ok (.bipush 15, 2) := by decide +kernel
theorem dX3_takeCell_17 : decode cX3_takeCell 17 = .ok (.iand, 1) := by decide +kernel
theorem dX3_takeCell_18 : decode cX3_takeCell 18 = .ok (.istore_n 1, 1) := by decide +kernel
theorem dX3_takeCell_19 : decode cX3_takeCell 19 = .ok (.aload_n 0, 1) := by decide +kernel
theorem dX3_takeCell_20 : decode cX3_takeCell 20 = .ok (.getfield 12, 3) := by decide +kernel
theorem dX3_takeCell_23 : decode cX3_takeCell 23 = .ok (.getfield 131, 3) := by decide +kernel
theorem dX3_takeCell_26 : decode cX3_takeCell 26 = .ok (.iload_n 1, 1) := by decide +kernel
theorem dX3_takeCell_27 : decode cX3_takeCell 27 = .ok (.aload_n 0, 1) := by decide +kernel
theorem dX3_takeCell_28 : decode cX3_takeCell 28 = .ok (.getfield 20, 3) := by decide +kernel
theorem dX3_takeCell_31 : decode cX3_takeCell 31 = .ok (.iconst 2, 1) := by decide +kernel
theorem dX3_takeCell_32 : decode cX3_takeCell 32 = .ok (.iaload, 1) := by decide +kernel
theorem dX3_takeCell_33 : decode cX3_takeCell 33 = .ok (.iastore, 1) := by decide +kernel
theorem dX3_takeCell_34 : decode cX3_takeCell 34 = .ok (.aload_n 0, 1) := by decide +kernel
theorem dX3_takeCell_35 : decode cX3_takeCell 35 = .ok (.getfield 12, 3) := by decide +kernel
theorem dX3_takeCell_38 : decode cX3_takeCell 38 = .ok (.getfield 134, 3) := by decide +kernel
theorem dX3_takeCell_41 : decode cX3_takeCell 41 = .ok (.iload_n 1, 1) := by decide +kernel
theorem dX3_takeCell_42 : decode cX3_takeCell 42 = .ok (.aload_n 0, 1) := by decide +kernel
theorem dX3_takeCell_43 : decode cX3_takeCell 43 = .ok (.getfield 20, 3) := by decide +kernel
theorem dX3_takeCell_46 : decode cX3_takeCell 46 = .ok (.iconst 3, 1) := by decide +kernel
theorem dX3_takeCell_47 : decode cX3_takeCell 47 = .ok (.iaload, 1) := by decide +kernel
theorem dX3_takeCell_48 : decode cX3_takeCell 48 = .ok (.iastore, 1) := by decide +kernel
theorem dX3_takeCell_49 : decode cX3_takeCell 49 = .ok (.aload_n 0, 1) := by decide +kernel
theorem dX3_takeCell_50 : decode cX3_takeCell 50 = .ok (.getfield 12, 3) := by decide +kernel
theorem dX3_takeCell_53 : decode cX3_takeCell 53 = .ok (.getfield 137, 3) := by decide +kernel
theorem dX3_takeCell_56 : decode cX3_takeCell 56 = .ok (.iload_n 1, 1) := by decide +kernel
theorem dX3_takeCell_57 : decode cX3_takeCell 57 = .ok (.aload_n 0, 1) := by decide +kernel
theorem dX3_takeCell_58 : decode cX3_takeCell 58 = .ok (.getfield 20, 3) := by decide +kernel
theorem dX3_takeCell_61 : decode cX3_takeCell 61 = .ok (.iconst 4, 1) := by decide +kernel
theorem dX3_takeCell_62 : decode cX3_takeCell 62 = .ok (.iaload, 1) := by decide +kernel
theorem dX3_takeCell_63 : decode cX3_takeCell 63 = .ok (.iastore, 1) := by decide +kernel
theorem dX3_takeCell_64 : decode cX3_takeCell 64 = .ok (.return_, 1) := by decide +kernel
theorem dX4_init_0 : decode cX4_init 0 = .ok (.aload_n 0, 1) := by decide +kernel
theorem dX4_init_1 : decode cX4_init 1 = .ok (.invokespecial 3, 3) := by decide +kernel
theorem dX4_init_4 : decode cX4_init 4 = .ok (.aload_n 0, 1) := by decide +kernel
theorem dX4_init_5 : decode cX4_init 5 = .ok (.iconst 0, 1) := by decide +kernel
theorem dX4_init_6 : decode cX4_init 6 = .ok (.putfield 9, 3) := by decide +kernel
theorem dX4_init_9 : decode cX4_init 9 = .ok (.aload_n 0, 1) := by decide +kernel
theorem dX4_init_10 : decode cX4_init 10 = .ok (.iload_n 1, 1) := by decide +kernel
theorem dX4_init_11 : decode cX4_init 11 = .ok (.iconst 0, 1) := by decide +kernel
theorem dX4_init_12 : decode cX4_init 12 = .ok (.invokestatic 15, 3) := by decide +kernel
theorem dX4_init_15 : decode cX4_init 15 = .ok (.newarray .long, 2) := by decide +kernel
theorem dX4_init_17 : decode cX4_init 17 = .ok (.putfield 21, 3) := by decide +kernel
theorem dX4_init_20 : decode cX4_init 20 = .ok (.return_, 1) := by decide +kernel
theorem dX4_has_0 : decode cX4_has 0 = .ok (.iload_n 1, 1) := by decide +kernel
theorem dX4_has_1 : decode cX4_has 1 = .ok (.ifCond .lt 24, 3) := by decide +kernel
theorem dX4_has_4 : decode cX4_has 4 = .ok (.iload_n 1, 1) := by decide +kernel
theorem dX4_has_5 : decode cX4_has 5 = .ok (.aload_n 0, 1) := by decide +kernel
theorem dX4_has_6 : decode cX4_has 6 = .ok (.getfield 9, 3) := by decide +kernel
theorem dX4_has_9 : decode cX4_has 9 = .ok (.if_icmp .ge 16, 3) := by decide +kernel
theorem dX4_has_12 : decode cX4_has 12 = .ok (.iload_n 1, 1) := by decide +kernel
theorem dX4_has_13 : decode cX4_has 13 = .ok (.aload_n 0, 1) := by decide +kernel
theorem dX4_has_14 : decode cX4_has 14 = .ok (.getfield 21, 3) := by decide +kernel
theorem dX4_has_17 : decode cX4_has 17 = .ok (.arraylength, 1) := by decide +kernel
theorem dX4_has_18 : decode cX4_has 18 = .ok (.if_icmp .ge 7, 3) := by decide +kernel
theorem dX4_has_21 : decode cX4_has 21 = .ok (.iconst 1, 1) := by decide +kernel
theorem dX4_has_22 : decode cX4_has 22 = .ok (.goto 4, 3) := by decide +kernel
theorem dX4_has_25 : decode cX4_has 25 = .ok (.iconst 0, 1) := by decide +kernel
theorem dX4_has_26 : decode cX4_has 26 = .ok (.ireturn, 1) := by decide +kernel
theorem dX4_at_0 : decode cX4_at 0 = .ok (.iload_n 1, 1) := by decide +kernel
theorem dX4_at_1 : decode cX4_at 1 = .ok (.ifCond .lt 21, 3) := by decide +kernel
theorem dX4_at_4 : decode cX4_at 4 = .ok (.iload_n 1, 1) := by decide +kernel
theorem dX4_at_5 : decode cX4_at 5 = .ok (.aload_n 0, 1) := by decide +kernel
theorem dX4_at_6 : decode cX4_at 6 = .ok (.getfield 21, 3) := by decide +kernel
theorem dX4_at_9 : decode cX4_at 9 = .ok (.arraylength, 1) := by decide +kernel
theorem dX4_at_10 : decode cX4_at 10 = .ok (.if_icmp .ge 12, 3) := by decide +kernel
theorem dX4_at_13 : decode cX4_at 13 = .ok (.aload_n 0, 1) := by decide +kernel
theorem dX4_at_14 : decode cX4_at 14 = .ok (.getfield 21, 3) := by decide +kernel
theorem dX4_at_17 : decode cX4_at 17 = .ok (.iload_n 1, 1) := by decide +kernel
theorem dX4_at_18 : decode cX4_at 18 = .ok (.laload, 1) := by decide +kernel
theorem dX4_at_19 : decode cX4_at 19 = .ok (.goto 4, 3) := by decide +kernel
theorem dX4_at_22 : decode cX4_at 22 = .ok (.lconst 0, 1) := by decide +kernel
theorem dX4_at_23 : decode cX4_at 23 = .ok (.lreturn, 1) := by decide +kernel
theorem dX4_add_0 : decode cX4_add 0 = .ok (.aload_n 0, 1) := by decide +kernel
theorem dX4_add_1 : decode cX4_add 1 = .ok (.getfield 9, 3) := by decide +kernel
theorem dX4_add_4 : decode cX4_add 4 = .ok (.aload_n 0, 1) := by decide +kernel
theorem dX4_add_5 : decode cX4_add 5 = .ok (.getfield 21, 3) := by decide +kernel
theorem dX4_add_8 : decode cX4_add 8 = .ok (.arraylength, 1) := by decide +kernel
theorem dX4_add_9 : decode cX4_add 9 = .ok (.if_icmp .ge 23, 3) := by decide +kernel
theorem dX4_add_12 : decode cX4_add 12 = .ok (.aload_n 0, 1) := by decide +kernel
theorem dX4_add_13 : decode cX4_add 13 = .ok (.getfield 21, 3) := by decide +kernel
theorem dX4_add_16 : decode cX4_add 16 = .ok (.aload_n 0, 1) := by decide +kernel
theorem dX4_add_17 : decode cX4_add 17 = .ok (.getfield 9, 3) := by decide +kernel
theorem dX4_add_20 : decode cX4_add 20 = .ok (.lload_n 1, 1) := by decide +kernel
theorem dX4_add_21 : decode cX4_add 21 = .ok (.lastore, 1) := by decide +kernel
theorem dX4_add_22 : decode cX4_add 22 = .ok (.aload_n 0, 1) := by decide +kernel
theorem dX4_add_23 : decode cX4_add 23 = .ok (.dup, 1) := by decide +kernel
theorem dX4_add_24 : decode cX4_add 24 = .ok (.getfield 9, 3) := by decide +kernel
theorem dX4_add_27 : decode cX4_add 27 = .ok (.iconst 1, 1) := by decide +kernel
theorem dX4_add_28 : decode cX4_add 28 = .ok (.iadd, 1) := by decide +kernel
theorem dX4_add_29 : decode cX4_add 29 = .ok (.putfield 9, 3) := by decide +kernel
theorem dX4_add_32 : decode cX4_add 32 = .ok (.return_, 1) := by decide +kernel
theorem dX4_put_0 : decode cX4_put 0 = .ok (.aload_n 0, 1) := by decide +kernel
theorem dX4_put_1 : decode cX4_put 1 = .ok (.iload_n 1, 1) := by decide +kernel
theorem dX4_put_2 : decode cX4_put 2 = .ok (.invokevirtual 25, 3) := by decide +kernel
theorem dX4_put_5 : decode cX4_put 5 = .ok (.ifCond .eq 10, 3) := by decide +kernel
theorem dX4_put_8 : decode cX4_put 8 = .ok (.aload_n 0, 1) := by decide +kernel
theorem dX4_put_9 : decode cX4_put 9 = .ok (.getfield 21, 3) := by decide +kernel
theorem dX4_put_12 : decode cX4_put 12 = .ok (.iload_n 1, 1) := by decide +kernel
theorem dX4_put_13 : decode cX4_put 13 = .ok (.lload_n 2, 1) := by decide +kernel
theorem dX4_put_14 : decode cX4_put 14 = .ok (.lastore, 1) := by decide +kernel
theorem dX4_put_15 : decode cX4_put 15 = .ok (.return_, 1) := by decide +kernel
theorem dX4_insertInOrder_0 : decode cX4_insertInOrder 0 = .ok (.aload_n 0, 1) := by decide +kernel
theorem dX4_insertInOrder_1 : decode cX4_insertInOrder 1 = .ok (.getfield 9, 3) := by decide +kernel
theorem dX4_insertInOrder_4 : decode cX4_insertInOrder 4 = .ok (.aload_n 0, 1) := by decide +kernel
theorem dX4_insertInOrder_5 : decode cX4_insertInOrder 5 = .ok (.getfield 21, 3) := by decide +kernel
theorem dX4_insertInOrder_8 : decode cX4_insertInOrder 8 = .ok (.arraylength, 1) := by decide +kernel
theorem dX4_insertInOrder_9 : decode cX4_insertInOrder 9 = .ok (.if_icmp .lt 4, 3) := by decide +kernel
theorem dX4_insertInOrder_12 : decode cX4_insertInOrder 12 = .ok (.return_, 1) := by decide +kernel
theorem dX4_insertInOrder_13 : decode cX4_insertInOrder 13 = .ok (.aload_n 0, 1) := by decide +kernel
theorem dX4_insertInOrder_14 : decode cX4_insertInOrder 14 = .ok (.getfield 9, 3) := by decide +kernel
theorem dX4_insertInOrder_17 : decode cX4_insertInOrder 17 = .ok (.istore_n 3, 1) := by decide +kernel
theorem dX4_insertInOrder_18 : decode cX4_insertInOrder 18 = .ok (.iload_n 3, 1) := by decide +kernel
theorem dX4_insertInOrder_19 : decode cX4_insertInOrder 19 = .ok (.ifCond .le 36, 3) := by decide +kernel
theorem dX4_insertInOrder_22 : decode cX4_insertInOrder 22 = .ok (.aload_n 0, 1) := by decide +kernel
theorem dX4_insertInOrder_23 : decode cX4_insertInOrder 23 = .ok (.getfield 21, 3) := by decide +kernel
theorem dX4_insertInOrder_26 : decode cX4_insertInOrder 26 = .ok (.iload_n 3, 1) := by decide +kernel
theorem dX4_insertInOrder_27 : decode cX4_insertInOrder 27 = .ok (.iconst 1, 1) := by decide +kernel
theorem dX4_insertInOrder_28 : decode cX4_insertInOrder 28 = .ok (.isub, 1) := by decide +kernel
theorem dX4_insertInOrder_29 : decode cX4_insertInOrder 29 = .ok (.laload, 1) := by decide +kernel
theorem dX4_insertInOrder_30 : decode cX4_insertInOrder 30 = .ok (.lload_n 1, 1) := by decide +kernel
theorem dX4_insertInOrder_31 : decode cX4_insertInOrder 31 = .ok (.lcmp, 1) := by decide +kernel
theorem dX4_insertInOrder_32 : decode cX4_insertInOrder 32 = .ok (.ifCond .le 23, 3) := by decide +kernel
theorem dX4_insertInOrder_35 : decode cX4_insertInOrder 35 = .ok (.aload_n 0, 1) := by decide +kernel
theorem dX4_insertInOrder_36 : decode cX4_insertInOrder 36 = .ok (.getfield 21, 3) := by decide +kernel
theorem dX4_insertInOrder_39 : decode cX4_insertInOrder 39 = .ok (.iload_n 3, 1) := by decide +kernel
theorem dX4_insertInOrder_40 : decode cX4_insertInOrder 40 = .ok (.aload_n 0, 1) := by decide +kernel
theorem dX4_insertInOrder_41 : decode cX4_insertInOrder 41 = .ok (.getfield 21, 3) := by decide +kernel
theorem dX4_insertInOrder_44 : decode cX4_insertInOrder 44 = .ok (.iload_n 3, 1) := by decide +kernel
theorem dX4_insertInOrder_45 : decode cX4_insertInOrder 45 = .ok (.iconst 1, 1) := by decide +kernel
theorem dX4_insertInOrder_46 : decode cX4_insertInOrder 46 = .ok (.isub, 1) := by decide +kernel
theorem dX4_insertInOrder_47 : decode cX4_insertInOrder 47 = .ok (.laload, 1) := by decide +kernel
theorem dX4_insertInOrder_48 : decode cX4_insertInOrder 48 = .ok (.lastore, 1) := by decide +kernel
theorem dX4_insertInOrder_49 : decode cX4_insertInOrder 49 = .ok (.iinc 3 (-1), 3) := by decide +kernel
theorem dX4_insertInOrder_52 : decode cX4_insertInOrder 52 = .ok (.goto (-34), 3) := by decide +kernel
theorem dX4_insertInOrder_55 : decode cX4_insertInOrder 55 = .ok (.aload_n 0, 1) := by decide +kernel
theorem dX4_insertInOrder_56 : decode cX4_insertInOrder 56 = .ok (.getfield 21, 3) := by decide +kernel
theorem dX4_insertInOrder_59 : decode cX4_insertInOrder 59 = .ok (.iload_n 3, 1) := by decide +kernel
theorem dX4_insertInOrder_60 : decode cX4_insertInOrder 60 = .ok (.lload_n 1, 1) := by decide +kernel
theorem dX4_insertInOrder_61 : decode cX4_insertInOrder 61 = .ok (.lastore, 1) := by decide +kernel
theorem dX4_insertInOrder_62 : decode cX4_insertInOrder 62 = .ok (.aload_n 0, 1) := by decide +kernel
theorem dX4_insertInOrder_63 : decode cX4_insertInOrder 63 = .ok (.dup, 1) := by decide +kernel
theorem dX4_insertInOrder_64 : decode cX4_insertInOrder 64 = .ok (.getfield 9, 3) := by decide +kernel
theorem dX4_insertInOrder_67 : decode cX4_insertInOrder 67 = .ok (.iconst 1, 1) := by decide +kernel
theorem dX4_insertInOrder_68 : decode cX4_insertInOrder 68 = .ok (.iadd, 1) := by decide +kernel
theorem dX4_insertInOrder_69 : decode cX4_insertInOrder 69 = .ok (.putfield 9, 3) := by decide +kernel
theorem dX4_insertInOrder_72 : decode cX4_insertInOrder 72 = .ok (.return_, 1) := by decide +kernel
theorem dX4_removeAt_0 : decode cX4_removeAt 0 = .ok (.aload_n 0, 1) := by decide +kernel
theorem dX4_removeAt_1 : decode cX4_removeAt 1 = .ok (.iload_n 1, 1) := by decide +kernel
theorem dX4_removeAt_2 : decode cX4_removeAt 2 = .ok (.invokevirtual 25, 3) := by decide +kernel
theorem dX4_removeAt_5 : decode cX4_removeAt 5 = .ok (.ifCond .ne 4, 3) := by decide +kernel
theorem dX4_removeAt_8 : decode cX4_removeAt 8 = .ok (.return_, 1) := by decide +kernel
theorem dX4_removeAt_9 : decode cX4_removeAt 9 = .ok (.aload_n 0, 1) := by decide +kernel
theorem dX4_removeAt_10 : decode cX4_removeAt 10 = .ok (.getfield 21, 3) := by decide +kernel
theorem dX4_removeAt_13 : decode cX4_removeAt 13 = .ok (.iload_n 1, 1) := by decide +kernel
theorem dX4_removeAt_14 : decode cX4_removeAt 14 = .ok (.iconst 1, 1) := by decide +kernel
theorem dX4_removeAt_15 : decode cX4_removeAt 15 = .ok (.iadd, 1) := by decide +kernel
theorem dX4_removeAt_16 : decode cX4_removeAt 16 = .ok (.aload_n 0, 1) := by decide +kernel
theorem dX4_removeAt_17 : decode cX4_removeAt 17 = .ok (.getfield 21, 3) := by decide +kernel
theorem dX4_removeAt_20 : decode cX4_removeAt 20 = .ok (.iload_n 1, 1) := by decide +kernel
theorem dX4_removeAt_21 : decode cX4_removeAt 21 = .ok (.aload_n 0, 1) := by decide +kernel
theorem dX4_removeAt_22 : decode cX4_removeAt 22 = .ok (.getfield 9, 3) := by decide +kernel
theorem dX4_removeAt_25 : decode cX4_removeAt 25 = .ok (.iconst 1, 1) := by decide +kernel
theorem dX4_removeAt_26 : decode cX4_removeAt 26 = .ok (.isub, 1) := by decide +kernel
theorem dX4_removeAt_27 : decode cX4_removeAt 27 = .ok (.iload_n 1, 1) := by decide +kernel
theorem dX4_removeAt_28 : decode cX4_removeAt 28 = .ok (.isub, 1) := by decide +kernel
theorem dX4_removeAt_29 : decode cX4_removeAt 29 = .ok (.invokestatic 29, 3) := by decide +kernel
theorem dX4_removeAt_32 : decode cX4_removeAt 32 = .ok (.aload_n 0, 1) := by decide +kernel
theorem dX4_removeAt_33 : decode cX4_removeAt 33 = .ok (.dup, 1) := by decide +kernel
theorem dX4_removeAt_34 : decode cX4_removeAt 34 = .ok (.getfield 9, 3) := by decide +kernel
theorem dX4_removeAt_37 : decode cX4_removeAt 37 = .ok (.iconst 1, 1) := by decide +kernel
theorem dX4_removeAt_38 : decode cX4_removeAt 38 = .ok (.isub, 1) := by decide +kernel
theorem dX4_removeAt_39 : decode cX4_removeAt 39 = .ok (.putfield 9, 3) := by decide +kernel
theorem dX4_removeAt_42 : decode cX4_removeAt 42 = .ok (.return_, 1) := by decide +kernel
theorem dX4_countAt_0 : decode cX4_countAt 0 = .ok (.iconst 0, 1) := by decide +kernel
theorem dX4_countAt_1 : decode cX4_countAt 1 = .ok (.istore_n 3, 1) := by decide +kernel
theorem dX4_countAt_2 : decode cX4_countAt 2 = .ok (.iconst 0, 1) := by decide +kernel
theorem dX4_countAt_3 : decode cX4_countAt 3 = .ok (.istore 4, 2) := by decide +kernel
theorem dX4_countAt_5 : decode cX4_countAt 5 = .ok (.iload 4, 2) := by decide +kernel
theorem dX4_countAt_7 : decode cX4_countAt 7 = .ok (.aload_n 0, 1) := by decide +kernel
theorem dX4_countAt_8 : decode cX4_countAt 8 = .ok (.getfield 9, 3) := by decide +kernel
theorem dX4_countAt_11 : decode cX4_countAt 11 = .ok (.if_icmp .ge 28, 3) := by decide +kernel
theorem dX4_countAt_14 : decode cX4_countAt 14 = .ok (.aload_n 0, 1) := by decide +kernel
theorem dX4_countAt_15 : decode cX4_countAt 15 = .ok (.getfield 21, 3) := by decide +kernel
theorem dX4_countAt_18 : decode cX4_countAt 18 = .ok (.iload 4, 2) := by decide +kernel
theorem dX4_countAt_20 : decode cX4_countAt 20 = .ok (.laload, 1) := by decide +kernel
theorem dX4_countAt_21 : decode cX4_countAt 21 = .ok (.iload_n 1, 1) := by decide +kernel
theorem dX4_countAt_22 : decode cX4_countAt 22 = .ok (.i2l, 1) := by decide +kernel
theorem dX4_countAt_23 : decode cX4_countAt 23 = .ok (.land, 1) := by decide +kernel
theorem dX4_countAt_24 : decode cX4_countAt 24 = .ok (.iload_n 2, 1) := by decide +kernel
theorem dX4_countAt_25 : decode cX4_countAt 25 = .ok (.i2l, 1) := by decide +kernel
theorem dX4_countAt_26 : decode cX4_countAt 26 = .ok (.lcmp, 1) := by decide +kernel
theorem dX4_countAt_27 : decode cX4_countAt 27 = .ok (.ifCond .ne 6, 3) := by decide +kernel
theorem dX4_countAt_30 : decode cX4_countAt 30 = .ok (.iinc 3 1, 3) := by decide +kernel
theorem dX4_countAt_33 : decode cX4_countAt 33 = .ok (.iinc 4 1, 3) := by decide +kernel
theorem dX4_countAt_36 : decode cX4_countAt 36 = .ok (.goto (-31), 3) := by decide +kernel
theorem dX4_countAt_39 : decode cX4_countAt 39 = .ok (.iload_n 3, 1) := by decide +kernel
theorem dX4_countAt_40 : decode cX4_countAt 40 = .ok (.ireturn, 1) := by decide +kernel
theorem dX4_findAt_0 : decode cX4_findAt 0 = .ok (.iconst 0, 1) := by decide +kernel
theorem dX4_findAt_1 : decode cX4_findAt 1 = .ok (.istore 4, 2) := by decide +kernel
theorem dX4_findAt_3 : decode cX4_findAt 3 = .ok (.iconst 0, 1) := by decide +kernel
theorem dX4_findAt_4 : decode cX4_findAt 4 = .ok (.istore 5, 2) := by decide +kernel
theorem dX4_findAt_6 : decode cX4_findAt 6 = .ok (.iload 5, 2) := by decide +kernel
theorem dX4_findAt_8 : decode cX4_findAt 8 = .ok (.aload_n 0, 1) := by decide +kernel
theorem dX4_findAt_9 : decode cX4_findAt 9 = .ok (.getfield 9, 3) := by decide +kernel
theorem dX4_findAt_12 : decode cX4_findAt 12 = .ok (.if_icmp .ge 37, 3) := by decide +kernel
theorem dX4_findAt_15 : decode cX4_findAt 15 = .ok (.aload_n 0, 1) := by decide +kernel
theorem dX4_findAt_16 : decode cX4_findAt 16 = .ok (.getfield 21, 3) := by decide +kernel
theorem dX4_findAt_19 : decode cX4_findAt 19 = .ok (.iload 5, 2) := by decide +kernel
theorem dX4_findAt_21 : decode cX4_findAt 21 = .ok (.laload, 1) := by decide +kernel
theorem dX4_findAt_22 : decode cX4_findAt 22 = .ok (.iload_n 1, 1) := by decide +kernel
theorem dX4_findAt_23 : decode cX4_findAt 23 = .ok (.i2l, 1) := by decide +kernel
theorem dX4_findAt_24 : decode cX4_findAt 24 = .ok (.land, 1) := by decide +kernel
theorem dX4_findAt_25 : decode cX4_findAt 25 = .ok (.iload_n 2, 1) := by decide +kernel
theorem dX4_findAt_26 : decode cX4_findAt 26 = .ok (.i2l, 1) := by decide +kernel
theorem dX4_findAt_27 : decode cX4_findAt 27 = .ok (.lcmp, 1) := by decide +kernel
theorem dX4_findAt_28 : decode cX4_findAt 28 = .ok (.ifCond .ne 15, 3) := by decide +kernel
theorem dX4_findAt_31 : decode cX4_findAt 31 = .ok (.iload 4, 2) := by decide +kernel
theorem dX4_findAt_33 : decode cX4_findAt 33 = .ok (.iload_n 3, 1) := by decide +kernel
theorem dX4_findAt_34 : decode cX4_findAt 34 = .ok (.if_icmp .ne 6, 3) := by decide +kernel
theorem dX4_findAt_37 : decode cX4_findAt 37 = .ok (.iload 5, 2) := by decide +kernel
theorem dX4_findAt_39 : decode cX4_findAt 39 = .ok (.ireturn, 1) := by decide +kernel
theorem dX4_findAt_40 : decode cX4_findAt 40 = .ok (.iinc 4 1, 3) := by decide +kernel
theorem dX4_findAt_43 : decode cX4_findAt 43 = .ok (.iinc 5 1, 3) := by decide +kernel
theorem dX4_findAt_46 : decode cX4_findAt 46 = .ok (.goto (-40), 3) := by decide +kernel
theorem dX4_findAt_49 : decode cX4_findAt 49 = .ok (.iconst (-1), 1) := by decide +kernel
theorem dX4_findAt_50 : decode cX4_findAt 50 = .ok (.ireturn, 1) := by decide +kernel
theorem dX4_copyFrom_0 : decode cX4_copyFrom 0 = .ok (.aload_n 0, 1) := by decide +kernel
theorem dX4_copyFrom_1 : decode cX4_copyFrom 1 = .ok (.aload_n 1, 1) := by decide +kernel
theorem dX4_copyFrom_2 : decode cX4_copyFrom 2 = .ok (.getfield 9, 3) := by decide +kernel
theorem dX4_copyFrom_5 : decode cX4_copyFrom 5 = .ok (.aload_n 0, 1) := by decide +kernel
theorem dX4_copyFrom_6 : decode cX4_copyFrom 6 = .ok (.getfield 21, 3) := by decide +kernel
theorem dX4_copyFrom_9 : decode cX4_copyFrom 9 = .ok (.arraylength, 1) := by decide +kernel
theorem dX4_copyFrom_10 : decode cX4_copyFrom 10 = .ok (.invokestatic 35, 3) := by decide +kernel
theorem dX4_copyFrom_13 : decode cX4_copyFrom 13 = .ok (.putfield 9, 3) := by decide +kernel
theorem dX4_copyFrom_16 : decode cX4_copyFrom 16 = .ok (.aload_n 1, 1) := by decide +kernel
theorem dX4_copyFrom_17 : decode cX4_copyFrom 17 = .ok (.getfield 21, 3) := by decide +kernel
theorem dX4_copyFrom_20 : decode cX4_copyFrom 20 = .ok (.iconst 0, 1) := by decide +kernel
theorem dX4_copyFrom_21 : decode cX4_copyFrom 21 = .ok (.aload_n 0, 1) := by decide +kernel
theorem dX4_copyFrom_22 : decode cX4_copyFrom 22 = .ok (.getfield 21, 3) := by decide +kernel
theorem dX4_copyFrom_25 : decode cX4_copyFrom 25 = .ok (.iconst 0, 1) := by decide +kernel
theorem dX4_copyFrom_26 : decode cX4_copyFrom 26 = .ok (.aload_n 0, 1) := by decide +kernel
theorem dX4_copyFrom_27 : decode cX4_copyFrom 27 = .ok (.getfield 9, 3) := by decide +kernel
theorem dX4_copyFrom_30 : decode cX4_copyFrom 30 = .ok (.invokestatic 29, 3) := by decide +kernel
theorem dX4_copyFrom_33 : decode cX4_copyFrom 33 = .ok (.return_, 1) := by decide +kernel
theorem dX5_of_0 : decode cX5_of 0 = .ok (.iload_n 0, 1) := by decide +kernel
theorem dX5_of_1 : decode cX5_of 1 = .ok (.i2l, 1) := by decide +kernel
theorem dX5_of_2 : decode cX5_of 2 = .ok (.bipush 40, 2) := by decide +kernel
theorem dX5_of_4 : decode cX5_of 4 = .ok (.lshl, 1) := by decide +kernel
theorem dX5_of_5 : decode cX5_of 5 = .ok (.iload_n 1, 1) := by decide +kernel
theorem dX5_of_6 : decode cX5_of 6 = .ok (.i2l, 1) := by decide +kernel
theorem dX5_of_7 : decode cX5_of 7 = .ok (.bipush 8, 2) := by decide +kernel
theorem dX5_of_9 : decode cX5_of 9 = .ok (.lshl, 1) := by decide +kernel
theorem dX5_of_10 : decode cX5_of 10 = .ok (.lor, 1) := by decide +kernel
theorem dX5_of_11 : decode cX5_of 11 = .ok (.iload_n 2, 1) := by decide +kernel
theorem dX5_of_12 : decode cX5_of 12 = .ok (.iconst 4, 1) := by decide +kernel
theorem dX5_of_13 : decode cX5_of 13 = .ok (.ishl, 1) := by decide +kernel
theorem dX5_of_14 : decode cX5_of 14 = .ok (.i2l, 1) := by decide +kernel
theorem dX5_of_15 : decode cX5_of 15 = .ok (.lor, 1) := by decide +kernel
theorem dX5_of_16 : decode cX5_of 16 = .ok (.iload_n 3, 1) := by decide +kernel
theorem dX5_of_17 : decode cX5_of 17 = .ok (.bipush 15, 2) := by decide +kernel
theorem dX5_of_19 : decode cX5_of 19 = .ok (.iand, 1) := by decide +kernel
theorem dX5_of_20 : decode cX5_of 20 = .ok (.i2l, 1) := by decide +kernel
theorem dX5_of_21 : decode cX5_of 21 = .ok (.lor, 1) := by decide +kernel
theorem dX5_of_22 : decode cX5_of 22 = .ok (.lreturn, 1) := by decide +kernel
theorem dX5_day_0 : decode cX5_day 0 = .ok (.lload_n 0, 1) := by decide +kernel
theorem dX5_day_1 : decode cX5_day 1 = .ok (.bipush 40, 2) := by decide +kernel
theorem dX5_day_3 : decode cX5_day 3 = .ok (.lushr, 1) := by decide +kernel
theorem dX5_day_4 : decode cX5_day 4 = .ok (.l2i, 1) := by decide +kernel
theorem dX5_day_5 : decode cX5_day 5 = .ok (.ireturn, 1) := by decide +kernel
theorem dX5_number_0 : decode cX5_number 0 = .ok (.lload_n 0, 1) := by decide +kernel
theorem dX5_number_1 : decode cX5_number 1 = .ok (.bipush 8, 2) := by decide +kernel
theorem dX5_number_3 : decode cX5_number 3 = .ok (.lushr, 1) := by decide +kernel
theorem dX5_number_4 : decode cX5_number 4 = .ok (.l2i, 1) := by decide +kernel
theorem dX5_number_5 : decode cX5_number 5 = .ok (.ireturn, 1) := by decide +kernel
theorem dX5_mark_0 : decode cX5_mark 0 = .ok (.lload_n 0, 1) := by decide +kernel
theorem dX5_mark_1 : decode cX5_mark 1 = .ok (.iconst 4, 1) := by decide +kernel
theorem dX5_mark_2 : decode cX5_mark 2 = .ok (.lushr, 1) := by decide +kernel
theorem dX5_mark_3 : decode cX5_mark 3 = .ok (.l2i, 1) := by decide +kernel
theorem dX5_mark_4 : decode cX5_mark 4 = .ok (.bipush 15, 2) := by decide +kernel
theorem dX5_mark_6 : decode cX5_mark 6 = .ok (.iand, 1) := by decide +kernel
theorem dX5_mark_7 : decode cX5_mark 7 = .ok (.ireturn, 1) := by decide +kernel
theorem dX5_place_0 : decode cX5_place 0 = .ok (.lload_n 0, 1) := by decide +kernel
theorem dX5_place_1 : decode cX5_place 1 = .ok (.l2i, 1) := by decide +kernel
theorem dX5_place_2 : decode cX5_place 2 = .ok (.bipush 15, 2) := by decide +kernel
theorem dX5_place_4 : decode cX5_place 4 = .ok (.iand, 1) := by decide +kernel
theorem dX5_place_5 : decode cX5_place 5 = .ok (.ireturn, 1) := by decide +kernel
theorem dX6_init_0 : decode cX6_init 0 = .ok (.aload_n 0, 1) := by decide +kernel
theorem dX6_init_1 : decode cX6_init 1 = .ok (.invokespecial 3, 3) := by decide +kernel
theorem dX6_init_4 : decode cX6_init 4 = .ok (.aload_n 0, 1) := by decide +kernel
theorem dX6_init_5 : decode cX6_init 5 = .ok (.sipush 256, 3) := by decide +kernel
theorem dX6_init_8 : decode cX6_init 8 = .ok (.newarray .byte, 2) := by decide +kernel
theorem dX6_init_10 : decode cX6_init 10 = .ok (.putfield 9, 3) := by decide +kernel
theorem dX6_init_13 : decode cX6_init 13 = .ok (.aload_n 0, 1) := by decide +kernel
theorem dX6_init_14 : decode cX6_init 14 = .ok (.iconst 0, 1) := by decide +kernel
theorem dX6_init_15 : decode cX6_init 15 = .ok (.putfield 15, 3) := by decide +kernel
theorem dX6_init_18 : decode cX6_init 18 = .ok (.return_, 1) := by decide +kernel
theorem dX6_write_0 : decode cX6_write 0 = .ok (.aload_n 0, 1) := by decide +kernel
theorem dX6_write_1 : decode cX6_write 1 = .ok (.iconst 0, 1) := by decide +kernel
theorem dX6_write_2 : decode cX6_write 2 = .ok (.putfield 15, 3) := by decide +kernel
theorem dX6_write_5 : decode cX6_write 5 = .ok (.aload_n 0, 1) := by decide +kernel
theorem dX6_write_6 : decode cX6_write 6 = .ok (.iconst 0, 1) := by decide +kernel
theorem dX6_write_7 : decode cX6_write 7 = .ok (.aload_n 1, 1) := by decide +kernel
theorem dX6_write_8 : decode cX6_write 8 = .ok (.getfield 21, 3) := by decide +kernel
theorem dX6_write_11 : decode cX6_write 11 = .ok (.invokevirtual 26, 3) := by decide +kernel
theorem dX6_write_14 : decode cX6_write 14 = .ok (.aload_n 0, 1) := by decide +kernel
theorem dX6_write_15 : decode cX6_write 15 = .ok (.iconst 1, 1) := by decide +kernel
theorem dX6_write_16 : decode cX6_write 16 = .ok (.aload_n 1, 1) := by decide +kernel
theorem dX6_write_17 : decode cX6_write 17 = .ok (.getfield 30, 3) := by decide +kernel
theorem dX6_write_20 : decode cX6_write 20 = .ok (.invokevirtual 26, 3) := by decide +kernel
theorem dX6_write_23 : decode cX6_write 23 = .ok (.aload_n 0, 1) := by decide +kernel
theorem dX6_write_24 : decode cX6_write 24 = .ok (.iconst 2, 1) := by decide +kernel
theorem dX6_write_25 : decode cX6_write 25 = .ok (.aload_n 1, 1) := by decide +kernel
theorem dX6_write_26 : decode cX6_write 26 = .ok (.getfield 33, 3) := by decide +kernel
theorem dX6_write_29 : decode cX6_write 29 = .ok (.invokevirtual 26, 3) := by decide +kernel
theorem dX6_write_32 : decode cX6_write 32 = .ok (.aload_n 0, 1) := by decide +kernel
theorem dX6_write_33 : decode cX6_write 33 = .ok (.aload_n 1, 1) := by decide +kernel
theorem dX6_write_34 : decode cX6_write 34 = .ok (.invokevirtual 36, 3) := by decide +kernel
theorem dX6_write_37 : decode cX6_write 37 = .ok (.iconst 0, 1) := by decide +kernel
theorem dX6_write_38 : decode cX6_write 38 = .ok (.istore_n 2, 1) := by decide +kernel
theorem dX6_write_39 : decode cX6_write 39 = .ok (.iload_n 2, 1) := by decide +kernel
theorem dX6_write_40 : decode cX6_write 40 = .ok (.aload_n 1, 1) := by decide +kernel
theorem dX6_write_41 : decode cX6_write 41 = .ok (.getfield 40, 3) := by decide +kernel
theorem dX6_write_44 : decode cX6_write 44 = .ok (.if_icmp .ge 25, 3) := by decide +kernel
theorem dX6_write_47 : decode cX6_write 47 = .ok (.iload_n 2, 1) := by decide +kernel
theorem dX6_write_48 : decode cX6_write 48 = .ok (.iconst 3, 1) := by decide +kernel
theorem dX6_write_49 : decode cX6_write 49 = .ok (.if_icmp .ge 20, 3) := by decide +kernel
theorem dX6_write_52 : decode cX6_write 52 = .ok (.aload_n 0, 1) := by decide +kernel
theorem dX6_write_53 : decode cX6_write 53 = .ok (.iconst 4, 1) := by decide +kernel
theorem dX6_write_54 : decode cX6_write 54 = .ok (.aload_n 1, 1) := by decide +kernel
theorem dX6_write_55 : decode cX6_write 55 = .ok (.getfield 43, 3) := by decide +kernel
theorem dX6_write_58 : decode cX6_write 58 = .ok (.iload_n 2, 1) := by decide +kernel
theorem dX6_write_59 : decode cX6_write 59 = .ok (.iaload, 1) := by decide +kernel
theorem dX6_write_60 : decode cX6_write 60 = .ok (.invokevirtual 26, 3) := by decide +kernel
theorem dX6_write_63 : decode cX6_write 63 = .ok (.iinc 2 1, 3) := by decide +kernel
theorem dX6_write_66 : decode cX6_write 66 = .ok (.goto (-27), 3) := by decide +kernel
theorem dX6_write_69 : decode cX6_write 69 = .ok (.aload_n 0, 1) := by decide +kernel
theorem dX6_write_70 : decode cX6_write 70 = .ok (.aload_n 1, 1) := by decide +kernel
theorem dX6_write_71 : decode cX6_write 71 = .ok (.invokevirtual 47, 3) := by decide +kernel
theorem dX6_write_74 : decode cX6_write 74 = .ok (.aload_n 0, 1) := by decide +kernel
theorem dX6_write_75 : decode cX6_write 75 = .ok (.aload_n 1, 1) := by decide +kernel
theorem dX6_write_76 : decode cX6_write 76 = .ok (.invokevirtual 50, 3) := by decide +kernel
theorem dX6_write_79 : decode cX6_write 79 = .ok (.return_, 1) := by decide +kernel
theorem dX6_writeOne_0 : decode cX6_writeOne 0 = .ok (.aload_n 0, 1) := by decide +kernel
theorem dX6_writeOne_1 : decode cX6_writeOne 1 = .ok (.iload_n 1, 1) := by decide +kernel
theorem dX6_writeOne_2 : decode cX6_writeOne 2 = .ok (.invokevirtual 53, 3) := by decide +kernel
theorem dX6_writeOne_5 : decode cX6_writeOne 5 = .ok (.aload_n 0, 1) := by decide +kernel
theorem dX6_writeOne_6 : decode cX6_writeOne 6 = .ok (.iload_n 2, 1) := by decide +kernel
theorem dX6_writeOne_7 : decode cX6_writeOne 7 = .ok (.invokevirtual 57, 3) := by decide +kernel
theorem dX6_writeOne_10 : decode cX6_writeOne 10 = .ok (.aload_n 0, 1) := by decide +kernel
theorem dX6_writeOne_11 : decode cX6_writeOne 11 = .ok (.bipush 59, 2) := by decide +kernel
theorem dX6_writeOne_13 : decode cX6_writeOne 13 = .ok (.invokevirtual 60, 3) := by decide +kernel
theorem dX6_writeOne_16 : decode cX6_writeOne 16 = .ok (.return_, 1) := by decide +kernel
theorem dX6_writeParts_0 : decode cX6_writeParts 0 = .ok (.iconst 0, 1) := by decide +kernel
theorem dX6_writeParts_1 : decode cX6_writeParts 1 = .ok (.istore_n 2, 1) := by decide +kernel
theorem dX6_writeParts_2 : decode cX6_writeParts 2 = .ok (.iload_n 2, 1) := by decide +kernel
theorem dX6_writeParts_3 : decode cX6_writeParts 3 = .ok (.aload_n 1, 1) := by decide +kernel
theorem dX6_writeParts_4 : decode cX6_writeParts 4 = .ok (.getfield 63, 3) := by decide +kernel
theorem dX6_writeParts_7 : decode cX6_writeParts 7 = .ok (.if_icmp .ge 55, 3) := by decide +kernel
theorem dX6_writeParts_10 : decode cX6_writeParts 10 = .ok (.iload_n 2, 1) := by decide +kernel
theorem dX6_writeParts_11 : decode cX6_writeParts 11 = .ok (.iconst 3, 1) := by decide +kernel
theorem dX6_writeParts_12 : decode cX6_writeParts 12 = .ok (.if_icmp .ge 50, 3) := by decide +kernel
theorem dX6_writeParts_15 : decode cX6_writeParts 15 = .ok (.aload_n 0, 1) := by decide +kernel
theorem dX6_writeParts_16 : decode cX6_writeParts 16 = .ok (.iconst 3, 1) := by decide +kernel
theorem dX6_writeParts_17 : decode cX6_writeParts 17 = .ok (.invokevirtual 53, 3) := by decide +kernel
theorem dX6_writeParts_20 : decode cX6_writeParts 20 = .ok (.aload_n 0, 1) := by decide +kernel
theorem dX6_writeParts_21 : decode cX6_writeParts 21 = .ok (.aload_n 1, 1) := by decide +kernel
theorem dX6_writeParts_22 : decode cX6_writeParts 22 = .ok (.getfield 66, 3) := by decide +kernel
theorem dX6_writeParts_25 : decode cX6_writeParts 25 = .ok (.iload_n 2, 1) := by decide +kernel
theorem dX6_writeParts_26 : decode cX6_writeParts 26 = .ok (.iaload, 1) := by decide +kernel
theorem dX6_writeParts_27 : decode cX6_writeParts 27 = .ok (.invokevirtual 57, 3) := by decide +kernel
theorem dX6_writeParts_30 : decode cX6_writeParts 30 = .ok (.aload_n 0, 1) := by decide +kernel
theorem dX6_writeParts_31 : decode cX6_writeParts 31 = .ok (.aload_n 1, 1) := by decide +kernel
theorem dX6_writeParts_32 : decode cX6_writeParts 32 = .ok (.getfield 69, 3) := by decide +kernel
theorem dX6_writeParts_35 : decode cX6_writeParts 35 = .ok (.iload_n 2, 1) := by decide +kernel
theorem dX6_writeParts_36 : decode cX6_writeParts 36 = .ok (.iaload, 1) := by decide +kernel
theorem dX6_writeParts_37 : decode cX6_writeParts 37 = .ok (.invokevirtual 57, 3) := by decide +kernel
theorem dX6_writeParts_40 : decode cX6_writeParts 40 = .ok (.aload_n 0, 1) := by decide +kernel
theorem dX6_writeParts_41 : decode cX6_writeParts 41 = .ok (.aload_n 1, 1) := by decide +kernel
theorem dX6_writeParts_42 : decode cX6_writeParts 42 = .ok (.getfield 72, 3) := by decide +kernel
theorem dX6_writeParts_45 : decode cX6_writeParts 45 = .ok (.iload_n 2, 1) := by decide +kernel
theorem dX6_writeParts_46 : decode cX6_writeParts 46 = .ok (.iaload, 1) := by decide +kernel
theorem dX6_writeParts_47 : decode cX6_writeParts 47 = .ok (.invokevirtual 57, 3) := by decide +kernel
theorem dX6_writeParts_50 : decode cX6_writeParts 50 = .ok (.aload_n 0, 1) := by decide +kernel
theorem dX6_writeParts_51 : decode cX6_writeParts 51 = .ok (.bipush 59, 2) := by decide +kernel
theorem dX6_writeParts_53 : decode cX6_writeParts 53 = .ok (.invokevirtual 60, 3) := by decide +kernel
theorem dX6_writeParts_56 : decode cX6_writeParts 56 = .ok (.iinc 2 1, 3) := by decide +kernel
theorem dX6_writeParts_59 : decode cX6_writeParts 59 = .ok (.goto (-57), 3) := by decide +kernel
theorem dX6_writeParts_62 : decode cX6_writeParts 62 = .ok (.return_, 1) := by decide +kernel
theorem dX6_writeCells_0 : decode cX6_writeCells 0 = .ok (.iconst 0, 1) := by decide +kernel
theorem dX6_writeCells_1 : decode cX6_writeCells 1 = .ok (.istore_n 2, 1) := by decide +kernel
theorem dX6_writeCells_2 : decode cX6_writeCells 2 = .ok (.iload_n 2, 1) := by decide +kernel
theorem dX6_writeCells_3 : decode cX6_writeCells 3 = .ok (.aload_n 1, 1) := by decide +kernel
theorem dX6_writeCells_4 : decode cX6_writeCells 4 = .ok (.getfield 40, 3) := by decide +kernel
theorem dX6_writeCells_7 : decode cX6_writeCells 7 = .ok (.if_icmp .ge 126, 3) := by decide +kernel
theorem dX6_writeCells_10 : decode cX6_writeCells 10 = .ok (.iload_n 2, 1) := by decide +kernel
theorem dX6_writeCells_11 : decode cX6_writeCells 11 = .ok (.iconst 3, 1) := by decide +kernel
theorem dX6_writeCells_12 : decode cX6_writeCells 12 = .ok (.if_icmp .ge 121, 3) := by decide +kernel
theorem dX6_writeCells_15 : decode cX6_writeCells 15 = .ok (.iconst 0, 1) := by decide +kernel
theorem dX6_writeCells_16 : decode cX6_writeCells 16 = .ok (.istore_n 3, 1) := by decide +kernel
theorem dX6_writeCells_17 : decode cX6_writeCells 17 = .ok (.iload_n 3, 1) := by decide +kernel
theorem dX6_writeCells_18 : decode cX6_writeCells 18 = .ok (.aload_n 1, 1) := by decide +kernel
theorem dX6_writeCells_19 : decode cX6_writeCells 19 = .ok (.getfield 63, 3) := by decide +kernel
theorem dX6_writeCells_22 : decode cX6_writeCells 22 = .ok (.if_icmp .ge 105, 3) := by decide +kernel
theorem dX6_writeCells_25 : decode cX6_writeCells 25 = .ok (.iload_n 3, 1) := by decide +kernel
theorem dX6_writeCells_26 : decode cX6_writeCells 26 = .ok (.iconst 3, 1) := by decide +kernel
theorem dX6_writeCells_27 : decode cX6_writeCells 27 = .ok (.if_icmp .ge 100, 3) := by decide +kernel
theorem dX6_writeCells_30 : decode cX6_writeCells 30 = .ok (.iload_n 2, 1) := by decide +kernel
theorem dX6_writeCells_31 : decode cX6_writeCells 31 = .ok (.iload_n 3, 1) := by decide +kernel
theorem dX6_writeCells_32 : decode cX6_writeCells 32 = .ok (.invokestatic 75, 3) := by decide +kernel
theorem dX6_writeCells_35 : decode cX6_writeCells 35 = .ok (.istore 4, 2) := by decide +kernel
theorem dX6_writeCells_37 : decode cX6_writeCells 37 = .ok (.aload_n 1, 1) := by decide +kernel
theorem dX6_writeCells_38 : decode cX6_writeCells 38 = .ok (.getfield 79, 3) := by decide +kernel
theorem dX6_writeCells_41 : decode cX6_writeCells 41 = .ok (.iload 4, 2) := by decide +kernel
theorem dX6_writeCells_43 : decode cX6_writeCells 43 = .ok (.iaload, 1) := by decide +kernel
theorem dX6_writeCells_44 : decode cX6_writeCells 44 = .ok (.ifCond .ne 23, 3) := by decide +kernel
theorem dX6_writeCells_47 : decode cX6_writeCells 47 = .ok (.aload_n 1, 1) := by decide +kernel
theorem dX6_writeCells_48 : decode cX6_writeCells 48 = .ok (.getfield 82, 3) := by decide +kernel
theorem dX6_writeCells_51 : decode cX6_writeCells 51 = .ok (.iload 4, 2) := by decide +kernel
theorem dX6_writeCells_53 : decode cX6_writeCells 53 = .ok (.iaload, 1) := by decide +kernel
theorem dX6_writeCells_54 : decode cX6_writeCells 54 = .ok (.ifCond .ne 13, 3) := by decide +kernel
theorem dX6_writeCells_57 : decode cX6_writeCells 57 = .ok (.aload_n 1, 1) := by decide +kernel
theorem dX6_writeCells_58 : decode cX6_writeCells 58 = .ok (.getfield 85, 3) := by decide +kernel
theorem dX6_writeCells_61 : decode cX6_writeCells 61 = .ok (.iload 4, 2) := by decide +kernel
theorem dX6_writeCells_63 : decode cX6_writeCells 63 = .ok (.iaload, 1) := by decide +kernel
theorem dX6_writeCells_64 : decode cX6_writeCells 64 = .ok (.ifCond .eq 57, 3) := by decide +kernel
theorem dX6_writeCells_67 : decode cX6_writeCells 67 = .ok (.aload_n 0, 1) := by decide +kernel
theorem dX6_writeCells_68 : decode cX6_writeCells 68 = .ok (.iconst 5, 1) := by decide +kernel
theorem dX6_writeCells_69 : decode cX6_writeCells 69 = .ok (.invokevirtual 53, 3) := by decide +kernel
theorem dX6_writeCells_72 : decode cX6_writeCells 72 = .ok (.aload_n 0, 1) := by decide +kernel
theorem dX6_writeCells_73 : decode cX6_writeCells 73 = .ok (.iload_n 2, 1) := by decide +kernel
theorem dX6_writeCells_74 : decode cX6_writeCells 74 = .ok (.invokevirtual 57, 3) := by decide +kernel
theorem dX6_writeCells_77 : decode cX6_writeCells 77 = .ok (.aload_n 0, 1) := by decide +kernel
theorem dX6_writeCells_78 : decode cX6_writeCells 78 = .ok (.iload_n 3, 1) := by decide +kernel
theorem dX6_writeCells_79 : decode cX6_writeCells 79 = .ok (.invokevirtual 57, 3) := by decide +kernel
theorem dX6_writeCells_82 : decode cX6_writeCells 82 = .ok (.aload_n 0, 1) := by decide +kernel
theorem dX6_writeCells_83 : decode cX6_writeCells 83 = .ok (.aload_n 1, 1) := by decide +kernel
theorem dX6_writeCells_84 : decode cX6_writeCells 84 = .ok (.getfield 79, 3) := by decide +kernel
theorem dX6_writeCells_87 : decode cX6_writeCells 87 = .ok (.iload 4, 2) := by decide +kernel
theorem dX6_writeCells_89 : decode cX6_writeCells 89 = .ok (.iaload, 1) := by decide +kernel
theorem dX6_writeCells_90 : decode cX6_writeCells 90 = .ok (.invokevirtual 57, 3) := by decide +kernel
theorem dX6_writeCells_93 : decode cX6_writeCells 93 = .ok (.aload_n 0, 1) := by decide +kernel
theorem dX6_writeCells_94 : decode cX6_writeCells 94 = .ok (.aload_n 1, 1) := by decide +kernel
theorem dX6_writeCells_95 : decode cX6_writeCells 95 = .ok (.getfield 82, 3) := by decide +kernel
theorem dX6_writeCells_98 : decode cX6_writeCells 98 = .ok (.iload 4, 2) := by decide +kernel
theorem dX6_writeCells_100 : decode cX6_writeCells 100 = .ok (.iaload, 1) := by decide +kernel
theorem dX6_writeCells_101 : decode cX6_writeCells 101 = .ok (.invokevirtual 57, 3) := by decide +kernel
theorem dX6_writeCells_104 : decode cX6_writeCells 104 = .ok (.aload_n 0, 1) := by decide +kernel
theorem dX6_writeCells_105 : decode cX6_writeCells 105 = .ok (.aload_n 1, 1) := by decide +kernel
theorem dX6_writeCells_106 : decode cX6_writeCells 106 = .ok (.getfield 85, 3) := by decide +kernel
theorem dX6_writeCells_109 : decode cX6_writeCells 109 = .ok (.iload 4, 2) := by decide +kernel
theorem dX6_writeCells_111 : decode cX6_writeCells 111 = .ok (.iaload, 1) := by decide +kernel
theorem dX6_writeCells_112 : decode cX6_writeCells 112 = .ok (.invokevirtual 57, 3) := by decide +kernel
theorem dX6_writeCells_115 : decode cX6_writeCells 115 = .ok (.aload_n 0, 1) := by decide +kernel
theorem dX6_writeCells_116 : decode cX6_writeCells 116 = .ok (.bipush 59, 2) := by decide +kernel
theorem dX6_writeCells_118 : decode cX6_writeCells 118 = .ok (.invokevirtual 60, 3) := by decide +kernel
theorem dX6_writeCells_121 : decode cX6_writeCells 121 = .ok (.iinc 3 1, 3) := by decide +kernel
theorem dX6_writeCells_124 : decode cX6_writeCells 124 = .ok (.goto (-107), 3) := by decide +kernel
theorem dX6_writeCells_127 : decode cX6_writeCells 127 = .ok (.iinc 2 1, 3) := by decide +kernel
theorem dX6_writeCells_130 : decode cX6_writeCells 130 = .ok (.goto (-128), 3) := by decide +kernel
theorem dX6_writeCells_133 : decode cX6_writeCells 133 = .ok (.return_, 1) := by decide +kernel
theorem dX6_writeWorks_0 : decode cX6_writeWorks 0 = .ok (.iconst 0, 1) := by decide +kernel
theorem dX6_writeWorks_1 : decode cX6_writeWorks 1 = .ok (.istore_n 2, 1) := by decide +kernel
theorem dX6_writeWorks_2 : decode cX6_writeWorks 2 = .ok (.iload_n 2, 1) := by decide +kernel
theorem dX6_writeWorks_3 : decode cX6_writeWorks 3 = .ok (.aload_n 1, 1) := by decide +kernel
theorem dX6_writeWorks_4 : decode cX6_writeWorks 4 = .ok (.getfield 63, 3) := by decide +kernel
theorem dX6_writeWorks_7 : decode cX6_writeWorks 7 = .ok (.if_icmp .ge 50, 3) := by decide +kernel
theorem dX6_writeWorks_10 : decode cX6_writeWorks 10 = .ok (.iload_n 2, 1) := by decide +kernel
theorem dX6_writeWorks_11 : decode cX6_writeWorks 11 = .ok (.iconst 3, 1) := by decide +kernel
theorem dX6_writeWorks_12 : decode cX6_writeWorks 12 = .ok (.if_icmp .ge 45, 3) := by decide +kernel
theorem dX6_writeWorks_15 : decode cX6_writeWorks 15 = .ok (.aload_n 1, 1) := by decide +kernel
theorem dX6_writeWorks_16 : decode cX6_writeWorks 16 = .ok (.getfield 88, 3) := by decide +kernel
theorem dX6_writeWorks_19 : decode cX6_writeWorks 19 = .ok (.iload_n 2, 1) := by decide +kernel
theorem dX6_writeWorks_20 : decode cX6_writeWorks 20 = .ok (.iaload, 1) := by decide +kernel
theorem dX6_writeWorks_21 : decode cX6_writeWorks 21 = .ok (.ifCond .eq 30, 3) := by decide +kernel
theorem dX6_writeWorks_24 : decode cX6_writeWorks 24 = .ok (.aload_n 0, 1) := by decide +kernel
theorem dX6_writeWorks_25 : decode cX6_writeWorks 25 = .ok (.bipush 6, 2) := by decide +kernel
theorem dX6_writeWorks_27 : decode cX6_writeWorks 27 = .ok (.invokevirtual 53, 3) := by decide +kernel
theorem dX6_writeWorks_30 : decode cX6_writeWorks 30 = .ok (.aload_n 0, 1) := by decide +kernel
theorem dX6_writeWorks_31 : decode cX6_writeWorks 31 = .ok (.iload_n 2, 1) := by decide +kernel
theorem dX6_writeWorks_32 : decode cX6_writeWorks 32 = .ok (.invokevirtual 57, 3) := by decide +kernel
theorem dX6_writeWorks_35 : decode cX6_writeWorks 35 = .ok (.aload_n 0, 1) := by decide +kernel
theorem dX6_writeWorks_36 : decode cX6_writeWorks 36 = .ok (.aload_n 1, 1) := by decide +kernel
theorem dX6_writeWorks_37 : decode cX6_writeWorks 37 = .ok (.getfield 88, 3) := by decide +kernel
theorem dX6_writeWorks_40 : decode cX6_writeWorks 40 = .ok (.iload_n 2, 1) := by decide +kernel
theorem dX6_writeWorks_41 : decode cX6_writeWorks 41 = .ok (.iaload, 1) := by decide +kernel
theorem dX6_writeWorks_42 : decode cX6_writeWorks 42 = .ok (.invokevirtual 57, 3) := by decide +kernel
theorem dX6_writeWorks_45 : decode cX6_writeWorks 45 = .ok (.aload_n 0, 1) := by decide +kernel
theorem dX6_writeWorks_46 : decode cX6_writeWorks 46 = .ok (.bipush 59, 2) := by decide +kernel
theorem dX6_writeWorks_48 : decode cX6_writeWorks 48 = .ok (.invokevirtual 60, 3) := by decide +kernel
theorem dX6_writeWorks_51 : decode cX6_writeWorks 51 = .ok (.iinc 2 1, 3) := by decide +kernel
theorem dX6_writeWorks_54 : decode cX6_writeWorks 54 = .ok (.goto (-52), 3) := by decide +kernel
theorem dX6_writeWorks_57 : decode cX6_writeWorks 57 = .ok (.return_, 1) := by decide +kernel
theorem dX6_putWord_0 : decode cX6_putWord 0 = .ok (.iload_n 1, 1) := by decide +kernel
theorem dX6_putWord_1 : decode cX6_putWord 1 = .ok (.invokestatic 91, 3) := by decide +kernel
theorem dX6_putWord_4 : decode cX6_putWord 4 = .ok (.astore_n 2, 1) := by decide +kernel
theorem dX6_putWord_5 : decode cX6_putWord 5 = .ok (.iconst 0, 1) := by decide +kernel
theorem dX6_putWord_6 : decode cX6_putWord 6 = .ok (.istore_n 3, 1) := by decide +kernel
theorem dX6_putWord_7 : decode cX6_putWord 7 = .ok (.iload_n 3, 1) := by decide +kernel
theorem dX6_putWord_8 : decode cX6_putWord 8 = .ok (.aload_n 2, 1) := by decide +kernel
theorem dX6_putWord_9 : decode cX6_putWord 9 = .ok (.invokevirtual 95, 3) := by decide +kernel
theorem dX6_putWord_12 : decode cX6_putWord 12 = .ok (.if_icmp .ge 18, 3) := by decide +kernel
theorem dX6_putWord_15 : decode cX6_putWord 15 = .ok (.aload_n 0, 1) := by decide +kernel
theorem dX6_putWord_16 : decode cX6_putWord 16 = .ok (.aload_n 2, 1) := by decide +kernel
theorem dX6_putWord_17 : decode cX6_putWord 17 = .ok (.iload_n 3, 1) := by decide +kernel
theorem dX6_putWord_18 : decode cX6_putWord 18 = .ok (.invokevirtual 100, 3) := by decide +kernel
theorem dX6_putWord_21 : decode cX6_putWord 21 = .ok (.invokevirtual 60, 3) := by decide +kernel
theorem dX6_putWord_24 : decode cX6_putWord 24 = .ok (.iinc 3 1, 3) := by decide +kernel
theorem dX6_putWord_27 : decode cX6_putWord 27 = .ok (.goto (-20), 3) := by decide +kernel
theorem dX6_putWord_30 : decode cX6_putWord 30 = .ok (.return_, 1) := by decide +kernel
theorem dX6_putNumber_0 : decode cX6_putNumber 0 = .ok (.aload_n 0, 1) := by decide +kernel
theorem dX6_putNumber_1 : decode cX6_putNumber 1 = .ok (.bipush 32, 2) := by decide +kernel
theorem dX6_putNumber_3 : decode cX6_putNumber 3 = .ok (.invokevirtual 60, 3) := by decide +kernel
theorem dX6_putNumber_6 : decode cX6_putNumber 6 = .ok (.iload_n 1, 1) := by decide +kernel
theorem dX6_putNumber_7 : decode cX6_putNumber 7 = .ok (.bipush 10, 2) := by decide +kernel
theorem dX6_putNumber_9 : decode cX6_putNumber 9 = .ok (.if_icmp .lt 17, 3) := by decide +kernel
theorem dX6_putNumber_12 : decode cX6_putNumber 12 = .ok (.aload_n 0, 1) := by decide +kernel
theorem dX6_putNumber_13 : decode cX6_putNumber 13 = .ok (.bipush 48, 2) := by decide +kernel
theorem dX6_putNumber_15 : decode cX6_putNumber 15 = .ok (.iload_n 1, 1) := by decide +kernel
theorem dX6_putNumber_16 : decode cX6_putNumber 16 = .ok (.bipush 10, 2) := by decide +kernel
theorem dX6_putNumber_18 : decode cX6_putNumber 18 = .ok (.idiv, 1) := by decide +kernel
theorem dX6_putNumber_19 : decode cX6_putNumber 19 = .ok (.bipush 10, 2) := by decide +kernel
theorem dX6_putNumber_21 : decode cX6_putNumber 21 = .ok (.irem, 1) := by decide +kernel
theorem dX6_putNumber_22 : decode cX6_putNumber 22 = .ok (.iadd, 1) := by decide +kernel
theorem dX6_putNumber_23 : decode cX6_putNumber 23 = .ok (.invokevirtual 60, 3) := by decide +kernel
theorem dX6_putNumber_26 : decode cX6_putNumber 26 = .ok (.aload_n 0, 1) := by decide +kernel
theorem dX6_putNumber_27 : decode cX6_putNumber 27 = .ok (.bipush 48, 2) := by decide +kernel
theorem dX6_putNumber_29 : decode cX6_putNumber 29 = .ok (.iload_n 1, 1) := by decide +kernel
theorem dX6_putNumber_30 : decode cX6_putNumber 30 = .ok (.bipush 10, 2) := by decide +kernel
theorem dX6_putNumber_32 : decode cX6_putNumber 32 = .ok (.irem, 1) := by decide +kernel
theorem dX6_putNumber_33 : decode cX6_putNumber 33 = .ok (.iadd, 1) := by decide +kernel
theorem dX6_putNumber_34 : decode cX6_putNumber 34 = .ok (.invokevirtual 60, 3) := by decide +kernel
theorem dX6_putNumber_37 : decode cX6_putNumber 37 = .ok (.return_, 1) := by decide +kernel
theorem dX6_put_0 : decode cX6_put 0 = .ok (.aload_n 0, 1) := by decide +kernel
theorem dX6_put_1 : decode cX6_put 1 = .ok (.getfield 15, 3) := by decide +kernel
theorem dX6_put_4 : decode cX6_put 4 = .ok (.aload_n 0, 1) := by decide +kernel
theorem dX6_put_5 : decode cX6_put 5 = .ok (.getfield 9, 3) := by decide +kernel
theorem dX6_put_8 : decode cX6_put 8 = .ok (.arraylength, 1) := by decide +kernel
theorem dX6_put_9 : decode cX6_put 9 = .ok (.if_icmp .ge 24, 3) := by decide +kernel
theorem dX6_put_12 : decode cX6_put 12 = .ok (.aload_n 0, 1) := by decide +kernel
theorem dX6_put_13 : decode cX6_put 13 = .ok (.getfield 9, 3) := by decide +kernel
theorem dX6_put_16 : decode cX6_put 16 = .ok (.aload_n 0, 1) := by decide +kernel
theorem dX6_put_17 : decode cX6_put 17 = .ok (.getfield 15, 3) := by decide +kernel
theorem dX6_put_20 : decode cX6_put 20 = .ok (.iload_n 1, 1) := by decide +kernel
theorem dX6_put_21 : decode cX6_put 21 = .ok (.i2b, 1) := by decide +kernel
theorem dX6_put_22 : decode cX6_put 22 = .ok (.bastore, 1) := by decide +kernel
theorem dX6_put_23 : decode cX6_put 23 = .ok (.aload_n 0, 1) := by decide +kernel
theorem dX6_put_24 : decode cX6_put 24 = .ok (.dup, 1) := by decide +kernel
theorem dX6_put_25 : decode cX6_put 25 = .ok (.getfield 15, 3) := by decide +kernel
theorem dX6_put_28 : decode cX6_put 28 = .ok (.iconst 1, 1) := by decide +kernel
theorem dX6_put_29 : decode cX6_put 29 = .ok (.iadd, 1) := by decide +kernel
theorem dX6_put_30 : decode cX6_put 30 = .ok (.putfield 15, 3) := by decide +kernel
theorem dX6_put_33 : decode cX6_put 33 = .ok (.return_, 1) := by decide +kernel
theorem dX7_spelled_0 : decode cX7_spelled 0 = .ok (.iload_n 0, 1) := by decide +kernel
theorem dX7_spelled_1 : decode cX7_spelled 1 = .ok (.tableswitch 57 0 5 #[39, 42, 45, 48, 51, 54], 39) := by decide +kernel
theorem dX7_spelled_40 : decode cX7_spelled 40 = .ok (.ldc 7, 2) := by decide +kernel
theorem dX7_spelled_42 : decode cX7_spelled 42 = .ok (.areturn, 1) := by decide +kernel
theorem dX7_spelled_43 : decode cX7_spelled 43 = .ok (.ldc 9, 2) := by decide +kernel
theorem dX7_spelled_45 : decode cX7_spelled 45 = .ok (.areturn, 1) := by decide +kernel
theorem dX7_spelled_46 : decode cX7_spelled 46 = .ok (.ldc 11, 2) := by decide +kernel
theorem dX7_spelled_48 : decode cX7_spelled 48 = .ok (.areturn, 1) := by decide +kernel
theorem dX7_spelled_49 : decode cX7_spelled 49 = .ok (.ldc 13, 2) := by decide +kernel
theorem dX7_spelled_51 : decode cX7_spelled 51 = .ok (.areturn, 1) := by decide +kernel
theorem dX7_spelled_52 : decode cX7_spelled 52 = .ok (.ldc 15, 2) := by decide +kernel
theorem dX7_spelled_54 : decode cX7_spelled 54 = .ok (.areturn, 1) := by decide +kernel
theorem dX7_spelled_55 : decode cX7_spelled 55 = .ok (.ldc 17, 2) := by decide +kernel
theorem dX7_spelled_57 : decode cX7_spelled 57 = .ok (.areturn, 1) := by decide +kernel
theorem dX7_spelled_58 : decode cX7_spelled 58 = .ok (.ldc 19, 2) := by decide +kernel
theorem dX7_spelled_60 : decode cX7_spelled 60 = .ok (.areturn, 1) := by decide +kernel
theorem dX7_numbersOf_0 : decode cX7_numbersOf 0 = .ok (.iload_n 0, 1) := by decide +kernel
theorem dX7_numbersOf_1 : decode cX7_numbersOf 1 = .ok (.ifCond .lt 19, 3) := by decide +kernel
theorem dX7_numbersOf_4 : decode cX7_numbersOf 4 = .ok (.iload_n 0, 1) := by decide +kernel
theorem dX7_numbersOf_5 : decode cX7_numbersOf 5 = .ok (.getstatic 21, 3) := by decide +kernel
theorem dX7_numbersOf_8 : decode cX7_numbersOf 8 = .ok (.arraylength, 1) := by decide +kernel
theorem dX7_numbersOf_9 : decode cX7_numbersOf 9 = .ok (.if_icmp .ge 11, 3) := by decide +kernel
theorem dX7_numbersOf_12 : decode cX7_numbersOf 12 = .ok (.getstatic 21, 3) := by decide +kernel
theorem dX7_numbersOf_15 : decode cX7_numbersOf 15 = .ok (.iload_n 0, 1) := by decide +kernel
theorem dX7_numbersOf_16 : decode cX7_numbersOf 16 = .ok (.iaload, 1) := by decide +kernel
theorem dX7_numbersOf_17 : decode cX7_numbersOf 17 = .ok (.goto 4, 3) := by decide +kernel
theorem dX7_numbersOf_20 : decode cX7_numbersOf 20 = .ok (.iconst 0, 1) := by decide +kernel
theorem dX7_numbersOf_21 : decode cX7_numbersOf 21 = .ok (.ireturn, 1) := by decide +kernel
theorem dX7_fits_0 : decode cX7_fits 0 = .ok (.iload_n 0, 1) := by decide +kernel
theorem dX7_fits_1 : decode cX7_fits 1 = .ok (.ifCond .lt 11, 3) := by decide +kernel
theorem dX7_fits_4 : decode cX7_fits 4 = .ok (.iload_n 0, 1) := by decide +kernel
theorem dX7_fits_5 : decode cX7_fits 5 = .ok (.getstatic 27, 3) := by decide +kernel
theorem dX7_fits_8 : decode cX7_fits 8 = .ok (.arraylength, 1) := by decide +kernel
theorem dX7_fits_9 : decode cX7_fits 9 = .ok (.if_icmp .lt 5, 3) := by decide +kernel
theorem dX7_fits_12 : decode cX7_fits 12 = .ok (.iconst 0, 1) := by decide +kernel
theorem dX7_fits_13 : decode cX7_fits 13 = .ok (.ireturn, 1) := by decide +kernel
theorem dX7_fits_14 : decode cX7_fits 14 = .ok (.getstatic 27, 3) := by decide +kernel
theorem dX7_fits_17 : decode cX7_fits 17 = .ok (.iload_n 0, 1) := by decide +kernel
theorem dX7_fits_18 : decode cX7_fits 18 = .ok (.iaload, 1) := by decide +kernel
theorem dX7_fits_19 : decode cX7_fits 19 = .ok (.iload_n 1, 1) := by decide +kernel
theorem dX7_fits_20 : decode cX7_fits 20 = .ok (.iadd, 1) := by decide +kernel
theorem dX7_fits_21 : decode cX7_fits 21 = .ok (.istore 4, 2) := by decide +kernel
theorem dX7_fits_23 : decode cX7_fits 23 = .ok (.iload 4, 2) := by decide +kernel
theorem dX7_fits_25 : decode cX7_fits 25 = .ok (.ifCond .lt 21, 3) := by decide +kernel
theorem dX7_fits_28 : decode cX7_fits 28 = .ok (.iload 4, 2) := by decide +kernel
theorem dX7_fits_30 : decode cX7_fits 30 = .ok (.getstatic 30, 3) := by decide +kernel
theorem dX7_fits_33 : decode cX7_fits 33 = .ok (.arraylength, 1) := by decide +kernel
theorem dX7_fits_34 : decode cX7_fits 34 = .ok (.if_icmp .ge 12, 3) := by decide +kernel
theorem dX7_fits_37 : decode cX7_fits 37 = .ok (.iload 4, 2) := by decide +kernel
theorem dX7_fits_39 : decode cX7_fits 39 = .ok (.getstatic 33, 3) := by decide +kernel
theorem dX7_fits_42 : decode cX7_fits 42 = .ok (.arraylength, 1) := by decide +kernel
theorem dX7_fits_43 : decode cX7_fits 43 = .ok (.if_icmp .lt 5, 3) := by decide +kernel
theorem dX7_fits_46 : decode cX7_fits 46 = .ok (.iconst 0, 1) := by decide +kernel
theorem dX7_fits_47 : decode cX7_fits 47 = .ok (.ireturn, 1) := by decide +kernel
theorem dX7_fits_48 : decode cX7_fits 48 = .ok (.getstatic 33, 3) := by decide +kernel
theorem dX7_fits_51 : decode cX7_fits 51 = .ok (.iload 4, 2) := by decide +kernel
theorem dX7_fits_53 : decode cX7_fits 53 = .ok (.iaload, 1) := by decide +kernel
theorem dX7_fits_54 : decode cX7_fits 54 = .ok (.iconst (-1), 1) := by decide +kernel
theorem dX7_fits_55 : decode cX7_fits 55 = .ok (.if_icmp .ne 9, 3) := by decide +kernel
theorem dX7_fits_58 : decode cX7_fits 58 = .ok (.aload_n 3, 1) := by decide +kernel
theorem dX7_fits_59 : decode cX7_fits 59 = .ok (.iload_n 2, 1) := by decide +kernel
theorem dX7_fits_60 : decode cX7_fits 60 = .ok (.invokevirtual 36, 3) := by decide +kernel
theorem dX7_fits_63 : decode cX7_fits 63 = .ok (.ireturn, 1) := by decide +kernel
theorem dX7_fits_64 : decode cX7_fits 64 = .ok (.getstatic 33, 3) := by decide +kernel
theorem dX7_fits_67 : decode cX7_fits 67 = .ok (.iload 4, 2) := by decide +kernel
theorem dX7_fits_69 : decode cX7_fits 69 = .ok (.iaload, 1) := by decide +kernel
theorem dX7_fits_70 : decode cX7_fits 70 = .ok (.bipush (-2), 2) := by decide +kernel
theorem dX7_fits_72 : decode cX7_fits 72 = .ok (.if_icmp .ne 9, 3) := by decide +kernel
theorem dX7_fits_75 : decode cX7_fits 75 = .ok (.aload_n 3, 1) := by decide +kernel
theorem dX7_fits_76 : decode cX7_fits 76 = .ok (.iload_n 2, 1) := by decide +kernel
theorem dX7_fits_77 : decode cX7_fits 77 = .ok (.invokevirtual 42, 3) := by decide +kernel
theorem dX7_fits_80 : decode cX7_fits 80 = .ok (.ireturn, 1) := by decide +kernel
theorem dX7_fits_81 : decode cX7_fits 81 = .ok (.iload_n 2, 1) := by decide +kernel
theorem dX7_fits_82 : decode cX7_fits 82 = .ok (.getstatic 30, 3) := by decide +kernel
theorem dX7_fits_85 : decode cX7_fits 85 = .ok (.iload 4, 2) := by decide +kernel
theorem dX7_fits_87 : decode cX7_fits 87 = .ok (.iaload, 1) := by decide +kernel
theorem dX7_fits_88 : decode cX7_fits 88 = .ok (.if_icmp .lt 17, 3) := by decide +kernel
theorem dX7_fits_91 : decode cX7_fits 91 = .ok (.iload_n 2, 1) := by decide +kernel
theorem dX7_fits_92 : decode cX7_fits 92 = .ok (.getstatic 33, 3) := by decide +kernel
theorem dX7_fits_95 : decode cX7_fits 95 = .ok (.iload 4, 2) := by decide +kernel
theorem dX7_fits_97 : decode cX7_fits 97 = .ok (.iaload, 1) := by decide +kernel
theorem dX7_fits_98 : decode cX7_fits 98 = .ok (.if_icmp .gt 7, 3) := by decide +kernel
theorem dX7_fits_101 : decode cX7_fits 101 = .ok (.iconst 1, 1) := by decide +kernel
theorem dX7_fits_102 : decode cX7_fits 102 = .ok (.goto 4, 3) := by decide +kernel
theorem dX7_fits_105 : decode cX7_fits 105 = .ok (.iconst 0, 1) := by decide +kernel
theorem dX7_fits_106 : decode cX7_fits 106 = .ok (.ireturn, 1) := by decide +kernel
theorem dX7_fitsPart_0 : decode cX7_fitsPart 0 = .ok (.getstatic 27, 3) := by decide +kernel
theorem dX7_fitsPart_3 : decode cX7_fitsPart 3 = .ok (.iconst 3, 1) := by decide +kernel
theorem dX7_fitsPart_4 : decode cX7_fitsPart 4 = .ok (.iaload, 1) := by decide +kernel
theorem dX7_fitsPart_5 : decode cX7_fitsPart 5 = .ok (.iload_n 0, 1) := by decide +kernel
theorem dX7_fitsPart_6 : decode cX7_fitsPart 6 = .ok (.iadd, 1) := by decide +kernel
theorem dX7_fitsPart_7 : decode cX7_fitsPart 7 = .ok (.istore_n 2, 1) := by decide +kernel
theorem dX7_fitsPart_8 : decode cX7_fitsPart 8 = .ok (.iload_n 2, 1) := by decide +kernel
theorem dX7_fitsPart_9 : decode cX7_fitsPart 9 = .ok (.ifCond .lt 33, 3) := by decide +kernel
theorem dX7_fitsPart_12 : decode cX7_fitsPart 12 = .ok (.iload_n 2, 1) := by decide +kernel
theorem dX7_fitsPart_13 : decode cX7_fitsPart 13 = .ok (.getstatic 30, 3) := by decide +kernel
theorem dX7_fitsPart_16 : decode cX7_fitsPart 16 = .ok (.arraylength, 1) := by decide +kernel
theorem dX7_fitsPart_17 : decode cX7_fitsPart 17 = .ok (.if_icmp .ge 25, 3) := by decide +kernel
theorem dX7_fitsPart_20 : decode cX7_fitsPart 20 = .ok (.iload_n 1, 1) := by decide +kernel
theorem dX7_fitsPart_21 : decode cX7_fitsPart 21 = .ok (.getstatic 30, 3) := by decide +kernel
theorem dX7_fitsPart_24 : decode cX7_fitsPart 24 = .ok (.iload_n 2, 1) := by decide +kernel
theorem dX7_fitsPart_25 : decode cX7_fitsPart 25 = .ok (.iaload, 1) := by decide +kernel
theorem dX7_fitsPart_26 : decode cX7_fitsPart 26 = .ok (.if_icmp .lt 16, 3) := by decide +kernel
theorem dX7_fitsPart_29 : decode cX7_fitsPart 29 = .ok (.iload_n 1, 1) := by decide +kernel
theorem dX7_fitsPart_30 : decode cX7_fitsPart 30 = .ok (.getstatic 33, 3) := by decide +kernel
theorem dX7_fitsPart_33 : decode cX7_fitsPart 33 = .ok (.iload_n 2, 1) := by decide +kernel
theorem dX7_fitsPart_34 : decode cX7_fitsPart 34 = .ok (.iaload, 1) := by decide +kernel
theorem dX7_fitsPart_35 : decode cX7_fitsPart 35 = .ok (.if_icmp .gt 7, 3) := by decide +kernel
theorem dX7_fitsPart_38 : decode cX7_fitsPart 38 = .ok (.iconst 1, 1) := by decide +kernel
theorem dX7_fitsPart_39 : decode cX7_fitsPart 39 = .ok (.goto 4, 3) := by decide +kernel
theorem dX7_fitsPart_42 : decode cX7_fitsPart 42 = .ok (.iconst 0, 1) := by decide +kernel
theorem dX7_fitsPart_43 : decode cX7_fitsPart 43 = .ok (.ireturn, 1) := by decide +kernel
theorem dX7_fitsHouse_0 : decode cX7_fitsHouse 0 = .ok (.iload_n 0, 1) := by decide +kernel
theorem dX7_fitsHouse_1 : decode cX7_fitsHouse 1 = .ok (.ifCond .lt 30, 3) := by decide +kernel
theorem dX7_fitsHouse_4 : decode cX7_fitsHouse 4 = .ok (.iload_n 0, 1) := by decide +kernel
theorem dX7_fitsHouse_5 : decode cX7_fitsHouse 5 = .ok (.iconst 2, 1) := by decide +kernel
theorem dX7_fitsHouse_6 : decode cX7_fitsHouse 6 = .ok (.if_icmp .gt 25, 3) := by decide +kernel
theorem dX7_fitsHouse_9 : decode cX7_fitsHouse 9 = .ok (.iload_n 1, 1) := by decide +kernel
theorem dX7_fitsHouse_10 : decode cX7_fitsHouse 10 = .ok (.getstatic 30, 3) := by decide +kernel
theorem dX7_fitsHouse_13 : decode cX7_fitsHouse 13 = .ok (.iload_n 0, 1) := by decide +kernel
theorem dX7_fitsHouse_14 : decode cX7_fitsHouse 14 = .ok (.iaload, 1) := by decide +kernel
theorem dX7_fitsHouse_15 : decode cX7_fitsHouse 15 = .ok (.if_icmp .lt 16, 3) := by decide +kernel
theorem dX7_fitsHouse_18 : decode cX7_fitsHouse 18 = .ok (.iload_n 1, 1) := by decide +kernel
theorem dX7_fitsHouse_19 : decode cX7_fitsHouse 19 = .ok (.getstatic 33, 3) := by decide +kernel
theorem dX7_fitsHouse_22 : decode cX7_fitsHouse 22 = .ok (.iload_n 0, 1) := by decide +kernel
theorem dX7_fitsHouse_23 : decode cX7_fitsHouse 23 = .ok (.iaload, 1) := by decide +kernel
theorem dX7_fitsHouse_24 : decode cX7_fitsHouse 24 = .ok (.if_icmp .gt 7, 3) := by decide +kernel
theorem dX7_fitsHouse_27 : decode cX7_fitsHouse 27 = .ok (.iconst 1, 1) := by decide +kernel
theorem dX7_fitsHouse_28 : decode cX7_fitsHouse 28 = .ok (.goto 4, 3) := by decide +kernel
theorem dX7_fitsHouse_31 : decode cX7_fitsHouse 31 = .ok (.iconst 0, 1) := by decide +kernel
theorem dX7_fitsHouse_32 : decode cX7_fitsHouse 32 = .ok (.ireturn, 1) := by decide +kernel
theorem dX8_init_0 : decode cX8_init 0 = .ok (.aload_n 0, 1) := by decide +kernel
theorem dX8_init_1 : decode cX8_init 1 = .ok (.invokespecial 3, 3) := by decide +kernel
theorem dX8_init_4 : decode cX8_init 4 = .ok (.aload_n 0, 1) := by decide +kernel
theorem dX8_init_5 : decode cX8_init 5 = .ok (.sipush 144, 3) := by decide +kernel
theorem dX8_init_8 : decode cX8_init 8 = .ok (.newarray .long, 2) := by decide +kernel
theorem dX8_init_10 : decode cX8_init 10 = .ok (.putfield 11, 3) := by decide +kernel
theorem dX8_init_13 : decode cX8_init 13 = .ok (.aload_n 0, 1) := by decide +kernel
theorem dX8_init_14 : decode cX8_init 14 = .ok (.sipush 160, 3) := by decide +kernel
theorem dX8_init_17 : decode cX8_init 17 = .ok (.newarray .long, 2) := by decide +kernel
theorem dX8_init_19 : decode cX8_init 19 = .ok (.putfield 15, 3) := by decide +kernel
theorem dX8_init_22 : decode cX8_init 22 = .ok (.aload_n 0, 1) := by decide +kernel
theorem dX8_init_23 : decode cX8_init 23 = .ok (.bipush 72, 2) := by decide +kernel
theorem dX8_init_25 : decode cX8_init 25 = .ok (.newarray .int, 2) := by decide +kernel
theorem dX8_init_27 : decode cX8_init 27 = .ok (.putfield 18, 3) := by decide +kernel
theorem dX8_init_30 : decode cX8_init 30 = .ok (.aload_n 0, 1) := by decide +kernel
theorem dX8_init_31 : decode cX8_init 31 = .ok (.bipush 72, 2) := by decide +kernel
theorem dX8_init_33 : decode cX8_init 33 = .ok (.newarray .int, 2) := by decide +kernel
theorem dX8_init_35 : decode cX8_init 35 = .ok (.putfield 22, 3) := by decide +kernel
theorem dX8_init_38 : decode cX8_init 38 = .ok (.aload_n 0, 1) := by decide +kernel
theorem dX8_init_39 : decode cX8_init 39 = .ok (.bipush 72, 2) := by decide +kernel
theorem dX8_init_41 : decode cX8_init 41 = .ok (.newarray .int, 2) := by decide +kernel
theorem dX8_init_43 : decode cX8_init 43 = .ok (.putfield 25, 3) := by decide +kernel
theorem dX8_init_46 : decode cX8_init 46 = .ok (.aload_n 0, 1) := by decide +kernel
theorem dX8_init_47 : decode cX8_init 47 = .ok (.iconst 0, 1) := by decide +kernel
theorem dX8_init_48 : decode cX8_init 48 = .ok (.putfield 28, 3) := by decide +kernel
theorem dX8_init_51 : decode cX8_init 51 = .ok (.aload_n 0, 1) := by decide +kernel
theorem dX8_init_52 : decode cX8_init 52 = .ok (.bipush 16, 2) := by decide +kernel
theorem dX8_init_54 : decode cX8_init 54 = .ok (.newarray .int, 2) := by decide +kernel
theorem dX8_init_56 : decode cX8_init 56 = .ok (.putfield 32, 3) := by decide +kernel
theorem dX8_init_59 : decode cX8_init 59 = .ok (.aload_n 0, 1) := by decide +kernel
theorem dX8_init_60 : decode cX8_init 60 = .ok (.sipush 1000, 3) := by decide +kernel
theorem dX8_init_63 : decode cX8_init 63 = .ok (.newarray .long, 2) := by decide +kernel
theorem dX8_init_65 : decode cX8_init 65 = .ok (.putfield 35, 3) := by decide +kernel
theorem dX8_init_68 : decode cX8_init 68 = .ok (.aload_n 0, 1) := by decide +kernel
theorem dX8_init_69 : decode cX8_init 69 = .ok (.sipush 1000, 3) := by decide +kernel
theorem dX8_init_72 : decode cX8_init 72 = .ok (.newarray .int, 2) := by decide +kernel
theorem dX8_init_74 : decode cX8_init 74 = .ok (.putfield 38, 3) := by decide +kernel
theorem dX8_init_77 : decode cX8_init 77 = .ok (.aload_n 0, 1) := by decide +kernel
theorem dX8_init_78 : decode cX8_init 78 = .ok (.sipush 900, 3) := by decide +kernel
theorem dX8_init_81 : decode cX8_init 81 = .ok (.newarray .int, 2) := by decide +kernel
theorem dX8_init_83 : decode cX8_init 83 = .ok (.putfield 41, 3) := by decide +kernel
theorem dX8_init_86 : decode cX8_init 86 = .ok (.aload_n 0, 1) := by decide +kernel
theorem dX8_init_87 : decode cX8_init 87 = .ok (.iconst 0, 1) := by decide +kernel
theorem dX8_init_88 : decode cX8_init 88 = .ok (.putfield 44, 3) := by decide +kernel
theorem dX8_init_91 : decode cX8_init 91 = .ok (.aload_n 0, 1) := by decide +kernel
theorem dX8_init_92 : decode cX8_init 92 = .ok (.iconst 0, 1) := by decide +kernel
theorem dX8_init_93 : decode cX8_init 93 = .ok (.putfield 48, 3) := by decide +kernel
theorem dX8_init_96 : decode cX8_init 96 = .ok (.aload_n 0, 1) := by decide +kernel
theorem dX8_init_97 : decode cX8_init 97 = .ok (.iconst 0, 1) := by decide +kernel
theorem dX8_init_98 : decode cX8_init 98 = .ok (.putfield 51, 3) := by decide +kernel
theorem dX8_init_101 : decode cX8_init 101 = .ok (.return_, 1) := by decide +kernel
theorem dX8_forget_0 : decode cX8_forget 0 = .ok (.aload_n 0, 1) := by decide +kernel
theorem dX8_forget_1 : decode cX8_forget 1 = .ok (.iconst 0, 1) := by decide +kernel
theorem dX8_forget_2 : decode cX8_forget 2 = .ok (.putfield 44, 3) := by decide +kernel
theorem dX8_forget_5 : decode cX8_forget 5 = .ok (.aload_n 0, 1) := by decide +kernel
theorem dX8_forget_6 : decode cX8_forget 6 = .ok (.iconst 0, 1) := by decide +kernel
theorem dX8_forget_7 : decode cX8_forget 7 = .ok (.putfield 48, 3) := by decide +kernel
theorem dX8_forget_10 : decode cX8_forget 10 = .ok (.aload_n 0, 1) := by decide +kernel
theorem dX8_forget_11 : decode cX8_forget 11 = .ok (.iconst 0, 1) := by decide +kernel
theorem dX8_forget_12 : decode cX8_forget 12 = .ok (.putfield 51, 3) := by decide +kernel
theorem dX8_forget_15 : decode cX8_forget 15 = .ok (.return_, 1) := by decide +kernel
theorem dX8_outOf_0 : decode cX8_outOf 0 = .ok (.iload_n 1, 1) := by decide +kernel
theorem dX8_outOf_1 : decode cX8_outOf 1 = .ok (.bipush 9, 2) := by decide +kernel
theorem dX8_outOf_3 : decode cX8_outOf 3 = .ok (.imul, 1) := by decide +kernel
theorem dX8_outOf_4 : decode cX8_outOf 4 = .ok (.iload_n 2, 1) := by decide +kernel
theorem dX8_outOf_5 : decode cX8_outOf 5 = .ok (.iadd, 1) := by decide +kernel
theorem dX8_outOf_6 : decode cX8_outOf 6 = .ok (.istore_n 3, 1) := by decide +kernel
theorem dX8_outOf_7 : decode cX8_outOf 7 = .ok (.iload_n 2, 1) := by decide +kernel
theorem dX8_outOf_8 : decode cX8_outOf 8 = .ok (.ifCond .lt 31, 3) := by decide +kernel
theorem dX8_outOf_11 : decode cX8_outOf 11 = .ok (.iload_n 2, 1) := by decide +kernel
theorem dX8_outOf_12 : decode cX8_outOf 12 = .ok (.bipush 9, 2) := by decide +kernel
theorem dX8_outOf_14 : decode cX8_outOf 14 = .ok (.if_icmp .ge 25, 3) := by decide +kernel
theorem dX8_outOf_17 : decode cX8_outOf 17 = .ok (.iload_n 3, 1) := by decide +kernel
theorem dX8_outOf_18 : decode cX8_outOf 18 = .ok (.ifCond .lt 21, 3) := by decide +kernel
theorem dX8_outOf_21 : decode cX8_outOf 21 = .ok (.iload_n 3, 1) := by decide +kernel
theorem dX8_outOf_22 : decode cX8_outOf 22 = .ok (.aload_n 0, 1) := by decide +kernel
theorem dX8_outOf_23 : decode cX8_outOf 23 = .ok (.getfield 11, 3) := by decide +kernel
theorem dX8_outOf_26 : decode cX8_outOf 26 = .ok (.arraylength, 1) := by decide +kernel
theorem dX8_outOf_27 : decode cX8_outOf 27 = .ok (.if_icmp .ge 12, 3) := by decide +kernel
theorem dX8_outOf_30 : decode cX8_outOf 30 = .ok (.aload_n 0, 1) := by decide +kernel
theorem dX8_outOf_31 : decode cX8_outOf 31 = .ok (.getfield 11, 3) := by decide +kernel
theorem dX8_outOf_34 : decode cX8_outOf 34 = .ok (.iload_n 3, 1) := by decide +kernel
theorem dX8_outOf_35 : decode cX8_outOf 35 = .ok (.laload, 1) := by decide +kernel
theorem dX8_outOf_36 : decode cX8_outOf 36 = .ok (.goto 4, 3) := by decide +kernel
theorem dX8_outOf_39 : decode cX8_outOf 39 = .ok (.lconst 0, 1) := by decide +kernel
theorem dX8_outOf_40 : decode cX8_outOf 40 = .ok (.lreturn, 1) := by decide +kernel
theorem dX8_lackOf_0 : decode cX8_lackOf 0 = .ok (.iload_n 1, 1) := by decide +kernel
theorem dX8_lackOf_1 : decode cX8_lackOf 1 = .ok (.bipush 10, 2) := by decide +kernel
theorem dX8_lackOf_3 : decode cX8_lackOf 3 = .ok (.imul, 1) := by decide +kernel
theorem dX8_lackOf_4 : decode cX8_lackOf 4 = .ok (.iload_n 2, 1) := by decide +kernel
theorem dX8_lackOf_5 : decode cX8_lackOf 5 = .ok (.iadd, 1) := by decide +kernel
theorem dX8_lackOf_6 : decode cX8_lackOf 6 = .ok (.istore_n 3, 1) := by decide +kernel
theorem dX8_lackOf_7 : decode cX8_lackOf 7 = .ok (.iload_n 2, 1) := by decide +kernel
theorem dX8_lackOf_8 : decode cX8_lackOf 8 = .ok (.ifCond .lt 31, 3) := by decide +kernel
theorem dX8_lackOf_11 : decode cX8_lackOf 11 = .ok (.iload_n 2, 1) := by decide +kernel
theorem dX8_lackOf_12 : decode cX8_lackOf 12 = .ok (.bipush 10, 2) := by decide +kernel
theorem dX8_lackOf_14 : decode cX8_lackOf 14 = .ok (.if_icmp .ge 25, 3) := by decide +kernel
theorem dX8_lackOf_17 : decode cX8_lackOf 17 = .ok (.iload_n 3, 1) := by decide +kernel
theorem dX8_lackOf_18 : decode cX8_lackOf 18 = .ok (.ifCond .lt 21, 3) := by decide +kernel
theorem dX8_lackOf_21 : decode cX8_lackOf 21 = .ok (.iload_n 3, 1) := by decide +kernel
theorem dX8_lackOf_22 : decode cX8_lackOf 22 = .ok (.aload_n 0, 1) := by decide +kernel
theorem dX8_lackOf_23 : decode cX8_lackOf 23 = .ok (.getfield 15, 3) := by decide +kernel
theorem dX8_lackOf_26 : decode cX8_lackOf 26 = .ok (.arraylength, 1) := by decide +kernel
theorem dX8_lackOf_27 : decode cX8_lackOf 27 = .ok (.if_icmp .ge 12, 3) := by decide +kernel
theorem dX8_lackOf_30 : decode cX8_lackOf 30 = .ok (.aload_n 0, 1) := by decide +kernel
theorem dX8_lackOf_31 : decode cX8_lackOf 31 = .ok (.getfield 15, 3) := by decide +kernel
theorem dX8_lackOf_34 : decode cX8_lackOf 34 = .ok (.iload_n 3, 1) := by decide +kernel
theorem dX8_lackOf_35 : decode cX8_lackOf 35 = .ok (.laload, 1) := by decide +kernel
theorem dX8_lackOf_36 : decode cX8_lackOf 36 = .ok (.goto 4, 3) := by decide +kernel
theorem dX8_lackOf_39 : decode cX8_lackOf 39 = .ok (.lconst 0, 1) := by decide +kernel
theorem dX8_lackOf_40 : decode cX8_lackOf 40 = .ok (.lreturn, 1) := by decide +kernel
theorem dX8_learnLack_0 : decode cX8_learnLack 0 = .ok (.aload_n 0, 1) := by decide +kernel
theorem dX8_learnLack_1 : decode cX8_learnLack 1 = .ok (.getfield 44, 3) := by decide +kernel
theorem dX8_learnLack_4 : decode cX8_learnLack 4 = .ok (.ifCond .eq 4, 3) := by decide +kernel
theorem dX8_learnLack_7 : decode cX8_learnLack 7 = .ok (.return_, 1) := by decide +kernel
theorem dX8_learnLack_8 : decode cX8_learnLack 8 = .ok (.iconst 0, 1) := by decide +kernel
theorem dX8_learnLack_9 : decode cX8_learnLack 9 = .ok (.istore_n 2, 1) := by decide +kernel
theorem dX8_learnLack_10 : decode cX8_learnLack 10 = .ok (.iload_n 2, 1) := by decide +kernel
theorem dX8_learnLack_11 : decode cX8_learnLack 11 = .ok (.bipush 16, 2) := by decide +kernel
theorem dX8_learnLack_13 : decode cX8_learnLack 13 = .ok (.if_icmp .ge 31, 3) := by decide +kernel
theorem dX8_learnLack_16 : decode cX8_learnLack 16 = .ok (.aload_n 0, 1) := by decide +kernel
theorem dX8_learnLack_17 : decode cX8_learnLack 17 = .ok (.iload_n 2, 1) := by decide +kernel
theorem dX8_learnLack_18 : decode cX8_learnLack 18 = .ok (.aload_n 1, 1) := by decide +kernel
theorem dX8_learnLack_19 : decode cX8_learnLack 19 = .ok (.getfield 54, 3) := by decide +kernel
theorem dX8_learnLack_22 : decode cX8_learnLack 22 = .ok (.iload_n 2, 1) := by decide +kernel
theorem dX8_learnLack_23 : decode cX8_learnLack 23 = .ok (.iaload, 1) := by decide +kernel
theorem dX8_learnLack_24 : decode cX8_learnLack 24 = .ok (.aload_n 1, 1) := by decide +kernel
theorem dX8_learnLack_25 : decode cX8_learnLack 25 = .ok (.getfield 59, 3) := by decide +kernel
theorem dX8_learnLack_28 : decode cX8_learnLack 28 = .ok (.iload_n 2, 1) := by decide +kernel
theorem dX8_learnLack_29 : decode cX8_learnLack 29 = .ok (.iaload, 1) := by decide +kernel
theorem dX8_learnLack_30 : decode cX8_learnLack 30 = .ok (.invokevirtual 62, 3) := by decide +kernel
theorem dX8_learnLack_33 : decode cX8_learnLack 33 = .ok (.aload_n 0, 1) := by decide +kernel
theorem dX8_learnLack_34 : decode cX8_learnLack 34 = .ok (.iload_n 2, 1) := by decide +kernel
theorem dX8_learnLack_35 : decode cX8_learnLack 35 = .ok (.invokevirtual 66, 3) := by decide +kernel
theorem dX8_learnLack_38 : decode cX8_learnLack 38 = .ok (.iinc 2 1, 3) := by decide +kernel
theorem dX8_learnLack_41 : decode cX8_learnLack 41 = .ok (.goto (-31), 3) := by decide +kernel
theorem dX8_learnLack_44 : decode cX8_learnLack 44 = .ok (.aload_n 0, 1) := by decide +kernel
theorem dX8_learnLack_45 : decode cX8_learnLack 45 = .ok (.iconst 1, 1) := by decide +kernel
theorem dX8_learnLack_46 : decode cX8_learnLack 46 = .ok (.putfield 44, 3) := by decide +kernel
theorem dX8_learnLack_49 : decode cX8_learnLack 49 = .ok (.return_, 1) := by decide +kernel
theorem dX8_fillOuts_0 : decode cX8_fillOuts 0 = .ok (.iload_n 1, 1) := by decide +kernel
theorem dX8_fillOuts_1 : decode cX8_fillOuts 1 = .ok (.bipush 9, 2) := by decide +kernel
theorem dX8_fillOuts_3 : decode cX8_fillOuts 3 = .ok (.imul, 1) := by decide +kernel
theorem dX8_fillOuts_4 : decode cX8_fillOuts 4 = .ok (.istore 4, 2) := by decide +kernel
theorem dX8_fillOuts_6 : decode cX8_fillOuts 6 = .ok (.iload 4, 2) := by decide +kernel
theorem dX8_fillOuts_8 : decode cX8_fillOuts 8 = .ok (.ifCond .lt 16, 3) := by decide +kernel
theorem dX8_fillOuts_11 : decode cX8_fillOuts 11 = .ok (.iload 4, 2) := by decide +kernel
theorem dX8_fillOuts_13 : decode cX8_fillOuts 13 = .ok (.bipush 9, 2) := by decide +kernel
theorem dX8_fillOuts_15 : decode cX8_fillOuts 15 = .ok (.iadd, 1) := by decide +kernel
theorem dX8_fillOuts_16 : decode cX8_fillOuts 16 = .ok (.aload_n 0, 1) := by decide +kernel
theorem dX8_fillOuts_17 : decode cX8_fillOuts 17 = .ok (.getfield 11, 3) := by decide +kernel
theorem dX8_fillOuts_20 : decode cX8_fillOuts 20 = .ok (.arraylength, 1) := by decide +kernel
theorem dX8_fillOuts_21 : decode cX8_fillOuts 21 = .ok (.if_icmp .le 4, 3) := by decide +kernel
theorem dX8_fillOuts_24 : decode cX8_fillOuts 24 = .ok (.return_, 1) := by decide +kernel
theorem dX8_fillOuts_25 : decode cX8_fillOuts 25 = .ok (.iconst 0, 1) := by decide +kernel
theorem dX8_fillOuts_26 : decode cX8_fillOuts 26 = .ok (.istore 5, 2) := by decide +kernel
theorem dX8_fillOuts_28 : decode cX8_fillOuts 28 = .ok (.iload 5, 2) := by decide +kernel
theorem dX8_fillOuts_30 : decode cX8_fillOuts 30 = .ok (.bipush 9, 2) := by decide +kernel
theorem dX8_fillOuts_32 : decode cX8_fillOuts 32 = .ok (.if_icmp .ge 29, 3) := by decide +kernel
theorem dX8_fillOuts_35 : decode cX8_fillOuts 35 = .ok (.aload_n 0, 1) := by decide +kernel
theorem dX8_fillOuts_36 : decode cX8_fillOuts 36 = .ok (.getfield 11, 3) := by decide +kernel
theorem dX8_fillOuts_39 : decode cX8_fillOuts 39 = .ok (.iload 4, 2) := by decide +kernel
theorem dX8_fillOuts_41 : decode cX8_fillOuts 41 = .ok (.iload 5, 2) := by decide +kernel
theorem dX8_fillOuts_43 : decode cX8_fillOuts 43 = .ok (.iadd, 1) := by decide +kernel
theorem dX8_fillOuts_44 : decode cX8_fillOuts 44 = .ok (.iload 5, 2) := by decide +kernel
theorem dX8_fillOuts_46 : decode cX8_fillOuts 46 = .ok (.ifCond .ne 7, 3) := by decide +kernel
theorem dX8_fillOuts_49 : decode cX8_fillOuts 49 = .ok (.lconst 1, 1) := by decide +kernel
theorem dX8_fillOuts_50 : decode cX8_fillOuts 50 = .ok (.goto 4, 3) := by decide +kernel
theorem dX8_fillOuts_53 : decode cX8_fillOuts 53 = .ok (.lconst 0, 1) := by decide +kernel
theorem dX8_fillOuts_54 : decode cX8_fillOuts 54 = .ok (.lastore, 1) := by decide +kernel
theorem dX8_fillOuts_55 : decode cX8_fillOuts 55 = .ok (.iinc 5 1, 3) := by decide +kernel
theorem dX8_fillOuts_58 : decode cX8_fillOuts 58 = .ok (.goto (-30), 3) := by decide +kernel
theorem dX8_fillOuts_61 : decode cX8_fillOuts 61 = .ok (.iconst 0, 1) := by decide +kernel
theorem dX8_fillOuts_62 : decode cX8_fillOuts 62 = .ok (.istore 5, 2) := by decide +kernel
theorem dX8_fillOuts_64 : decode cX8_fillOuts 64 = .ok (.iload 5, 2) := by decide +kernel
theorem dX8_fillOuts_66 : decode cX8_fillOuts 66 = .ok (.bipush 8, 2) := by decide +kernel
theorem dX8_fillOuts_68 : decode cX8_fillOuts 68 = .ok (.if_icmp .ge 102, 3) := by decide +kernel
theorem dX8_fillOuts_71 : decode cX8_fillOuts 71 = .ok (.iload 5, 2) := by decide +kernel
theorem dX8_fillOuts_73 : decode cX8_fillOuts 73 = .ok (.iload_n 2, 1) := by decide +kernel
theorem dX8_fillOuts_74 : decode cX8_fillOuts 74 = .ok (.if_icmp .ge 7, 3) := by decide +kernel
theorem dX8_fillOuts_77 : decode cX8_fillOuts 77 = .ok (.iload_n 3, 1) := by decide +kernel
theorem dX8_fillOuts_78 : decode cX8_fillOuts 78 = .ok (.goto 4, 3) := by decide +kernel
theorem dX8_fillOuts_81 : decode cX8_fillOuts 81 = .ok (.iconst 0, 1) := by decide +kernel
theorem dX8_fillOuts_82 : decode cX8_fillOuts 82 = .ok (.istore 6, 2) := by decide +kernel
theorem dX8_fillOuts_84 : decode cX8_fillOuts 84 = .ok (.bipush 8, 2) := by decide +kernel
theorem dX8_fillOuts_86 : decode cX8_fillOuts 86 = .ok (.istore 7, 2) := by decide +kernel
theorem dX8_fillOuts_88 : decode cX8_fillOuts 88 = .ok (.iload 7, 2) := by decide +kernel
theorem dX8_fillOuts_90 : decode cX8_fillOuts 90 = .ok (.ifCond .le 53, 3) := by decide +kernel
theorem dX8_fillOuts_93 : decode cX8_fillOuts 93 = .ok (.aload_n 0, 1) := by decide +kernel
theorem dX8_fillOuts_94 : decode cX8_fillOuts 94 = .ok (.getfield 11, 3) := by decide +kernel
theorem dX8_fillOuts_97 : decode cX8_fillOuts 97 = .ok (.iload 4, 2) := by decide +kernel
theorem dX8_fillOuts_99 : decode cX8_fillOuts 99 = .ok (.iload 7, 2) := by decide +kernel
theorem dX8_fillOuts_101 : decode cX8_fillOuts 101 = .ok (.iadd, 1) := by decide +kernel
theorem dX8_fillOuts_102 : decode cX8_fillOuts 102 = .ok (.aload_n 0, 1) := by decide +kernel
theorem dX8_fillOuts_103 : decode cX8_fillOuts 103 = .ok (.getfield 11, 3) := by decide +kernel
theorem dX8_fillOuts_106 : decode cX8_fillOuts 106 = .ok (.iload 4, 2) := by decide +kernel
theorem dX8_fillOuts_108 : decode cX8_fillOuts 108 = .ok (.iload 7, 2) := by decide +kernel
theorem dX8_fillOuts_110 : decode cX8_fillOuts 110 = .ok (.iadd, 1) := by decide +kernel
theorem dX8_fillOuts_111 : decode cX8_fillOuts 111 = .ok (.laload, 1) := by decide +kernel
theorem dX8_fillOuts_112 : decode cX8_fillOuts 112 = .ok (.bipush 12, 2) := by decide +kernel
theorem dX8_fillOuts_114 : decode cX8_fillOuts 114 = .ok (.iload 6, 2) := by decide +kernel
theorem dX8_fillOuts_116 : decode cX8_fillOuts 116 = .ok (.isub, 1) := by decide +kernel
theorem dX8_fillOuts_117 : decode cX8_fillOuts 117 = .ok (.i2l, 1) := by decide +kernel
theorem dX8_fillOuts_118 : decode cX8_fillOuts 118 = .ok (.lmul, 1) := by decide +kernel
theorem dX8_fillOuts_119 : decode cX8_fillOuts 119 = .ok (.aload_n 0, 1) := by decide +kernel
theorem dX8_fillOuts_120 : decode cX8_fillOuts 120 = .ok (.getfield 11, 3) := by decide +kernel
theorem dX8_fillOuts_123 : decode cX8_fillOuts 123 = .ok (.iload 4, 2) := by decide +kernel
theorem dX8_fillOuts_125 : decode cX8_fillOuts 125 = .ok (.iload 7, 2) := by decide +kernel
theorem dX8_fillOuts_127 : decode cX8_fillOuts 127 = .ok (.iadd, 1) := by decide +kernel
theorem dX8_fillOuts_128 : decode cX8_fillOuts 128 = .ok (.iconst 1, 1) := by decide +kernel
theorem dX8_fillOuts_129 : decode cX8_fillOuts 129 = .ok (.isub, 1) := by decide +kernel
theorem dX8_fillOuts_130 : decode cX8_fillOuts 130 = .ok (.laload, 1) := by decide +kernel
theorem dX8_fillOuts_131 : decode cX8_fillOuts 131 = .ok (.iload 6, 2) := by decide +kernel
theorem dX8_fillOuts_133 : decode cX8_fillOuts 133 = .ok (.i2l, 1) := by decide +kernel
theorem dX8_fillOuts_134 : decode cX8_fillOuts 134 = .ok (.lmul, 1) := by decide +kernel
theorem dX8_fillOuts_135 : decode cX8_fillOuts 135 = .ok (.ladd, 1) := by decide +kernel
theorem dX8_fillOuts_136 : decode cX8_fillOuts 136 = .ok (.lastore, 1) := by decide +kernel
theorem dX8_fillOuts_137 : decode cX8_fillOuts 137 = .ok (.iinc 7 (-1), 3) := by decide +kernel
theorem dX8_fillOuts_140 : decode cX8_fillOuts 140 = .ok (.goto (-52), 3) := by decide +kernel
theorem dX8_fillOuts_143 : decode cX8_fillOuts 143 = .ok (.aload_n 0, 1) := by decide +kernel
theorem dX8_fillOuts_144 : decode cX8_fillOuts 144 = .ok (.getfield 11, 3) := by decide +kernel
theorem dX8_fillOuts_147 : decode cX8_fillOuts 147 = .ok (.iload 4, 2) := by decide +kernel
theorem dX8_fillOuts_149 : decode cX8_fillOuts 149 = .ok (.aload_n 0, 1) := by decide +kernel
theorem dX8_fillOuts_150 : decode cX8_fillOuts 150 = .ok (.getfield 11, 3) := by decide +kernel
theorem dX8_fillOuts_153 : decode cX8_fillOuts 153 = .ok (.iload 4, 2) := by decide +kernel
theorem dX8_fillOuts_155 : decode cX8_fillOuts 155 = .ok (.laload, 1) := by decide +kernel
theorem dX8_fillOuts_156 : decode cX8_fillOuts 156 = .ok (.bipush 12, 2) := by decide +kernel
theorem dX8_fillOuts_158 : decode cX8_fillOuts 158 = .ok (.iload 6, 2) := by decide +kernel
theorem dX8_fillOuts_160 : decode cX8_fillOuts 160 = .ok (.isub, 1) := by decide +kernel
theorem dX8_fillOuts_161 : decode cX8_fillOuts 161 = .ok (.i2l, 1) := by decide +kernel
theorem dX8_fillOuts_162 : decode cX8_fillOuts 162 = .ok (.lmul, 1) := by decide +kernel
theorem dX8_fillOuts_163 : decode cX8_fillOuts 163 = .ok (.lastore, 1) := by decide +kernel
theorem dX8_fillOuts_164 : decode cX8_fillOuts 164 = .ok (.iinc 5 1, 3) := by decide +kernel
theorem dX8_fillOuts_167 : decode cX8_fillOuts 167 = .ok (.goto (-103), 3) := by decide +kernel
theorem dX8_fillOuts_170 : decode cX8_fillOuts 170 = .ok (.return_, 1) := by decide +kernel
theorem dX8_fillLack_0 : decode cX8_fillLack 0 = .ok (.iload_n 1, 1) := by decide +kernel
theorem dX8_fillLack_1 : decode cX8_fillLack 1 = .ok (.bipush 10, 2) := by decide +kernel
theorem dX8_fillLack_3 : decode cX8_fillLack 3 = .ok (.imul, 1) := by decide +kernel
theorem dX8_fillLack_4 : decode cX8_fillLack 4 = .ok (.istore_n 2, 1) := by decide +kernel
theorem dX8_fillLack_5 : decode cX8_fillLack 5 = .ok (.iload_n 2, 1) := by decide +kernel
theorem dX8_fillLack_6 : decode cX8_fillLack 6 = .ok (.ifCond .lt 15, 3) := by decide +kernel
theorem dX8_fillLack_9 : decode cX8_fillLack 9 = .ok (.iload_n 2, 1) := by decide +kernel
theorem dX8_fillLack_10 : decode cX8_fillLack 10 = .ok (.bipush 10, 2) := by decide +kernel
theorem dX8_fillLack_12 : decode cX8_fillLack 12 = .ok (.iadd, 1) := by decide +kernel
theorem dX8_fillLack_13 : decode cX8_fillLack 13 = .ok (.aload_n 0, 1) := by decide +kernel
theorem dX8_fillLack_14 : decode cX8_fillLack 14 = .ok (.getfield 15, 3) := by decide +kernel
theorem dX8_fillLack_17 : decode cX8_fillLack 17 = .ok (.arraylength, 1) := by decide +kernel
theorem dX8_fillLack_18 : decode cX8_fillLack 18 = .ok (.if_icmp .le 4, 3) := by decide +kernel
theorem dX8_fillLack_21 : decode cX8_fillLack 21 = .ok (.return_, 1) := by decide +kernel
theorem dX8_fillLack_22 : decode cX8_fillLack 22 = .ok (.iconst 0, 1) := by decide +kernel
theorem dX8_fillLack_23 : decode cX8_fillLack 23 = .ok (.istore_n 3, 1) := by decide +kernel
theorem dX8_fillLack_24 : decode cX8_fillLack 24 = .ok (.iload_n 3, 1) := by decide +kernel
theorem dX8_fillLack_25 : decode cX8_fillLack 25 = .ok (.bipush 10, 2) := by decide +kernel
theorem dX8_fillLack_27 : decode cX8_fillLack 27 = .ok (.if_icmp .ge 58, 3) := by decide +kernel
theorem dX8_fillLack_30 : decode cX8_fillLack 30 = .ok (.lconst 0, 1) := by decide +kernel
theorem dX8_fillLack_31 : decode cX8_fillLack 31 = .ok (.lstore 4, 2) := by decide +kernel
theorem dX8_fillLack_33 : decode cX8_fillLack 33 = .ok (.iload_n 3, 1) := by decide +kernel
theorem dX8_fillLack_34 : decode cX8_fillLack 34 = .ok (.iconst 1, 1) := by decide +kernel
theorem dX8_fillLack_35 : decode cX8_fillLack 35 = .ok (.iadd, 1) := by decide +kernel
theorem dX8_fillLack_36 : decode cX8_fillLack 36 = .ok (.istore 6, 2) := by decide +kernel
theorem dX8_fillLack_38 : decode cX8_fillLack 38 = .ok (.iload 6, 2) := by decide +kernel
theorem dX8_fillLack_40 : decode cX8_fillLack 40 = .ok (.bipush 9, 2) := by decide +kernel
theorem dX8_fillLack_42 : decode cX8_fillLack 42 = .ok (.if_icmp .ge 27, 3) := by decide +kernel
theorem dX8_fillLack_45 : decode cX8_fillLack 45 = .ok (.lload 4, 2) := by decide +kernel
theorem dX8_fillLack_47 : decode cX8_fillLack 47 = .ok (.iload 6, 2) := by decide +kernel
theorem dX8_fillLack_49 : decode cX8_fillLack 49 = .ok (.iload_n 3, 1) := by decide +kernel
theorem dX8_fillLack_50 : decode cX8_fillLack 50 = .ok (.isub, 1) := by decide +kernel
theorem dX8_fillLack_51 : decode cX8_fillLack 51 = .ok (.i2l, 1) := by decide +kernel
theorem dX8_fillLack_52 : decode cX8_fillLack 52 = .ok (.aload_n 0, 1) := by decide +kernel
theorem dX8_fillLack_53 : decode cX8_fillLack 53 = .ok (.iload_n 1, 1) := by decide +kernel
theorem dX8_fillLack_54 : decode cX8_fillLack 54 = .ok (.iload 6, 2) := by decide +kernel
theorem dX8_fillLack_56 : decode cX8_fillLack 56 = .ok (.invokevirtual 70, 3) := by decide +kernel
theorem dX8_fillLack_59 : decode cX8_fillLack 59 = .ok (.lmul, 1) := by decide +kernel
theorem dX8_fillLack_60 : decode cX8_fillLack 60 = .ok (.ladd, 1) := by decide +kernel
theorem dX8_fillLack_61 : decode cX8_fillLack 61 = .ok (.lstore 4, 2) := by decide +kernel
theorem dX8_fillLack_63 : decode cX8_fillLack 63 = .ok (.iinc 6 1, 3) := by decide +kernel
theorem dX8_fillLack_66 : decode cX8_fillLack 66 = .ok (.goto (-28), 3) := by decide +kernel
theorem dX8_fillLack_69 : decode cX8_fillLack 69 = .ok (.aload_n 0, 1) := by decide +kernel
theorem dX8_fillLack_70 : decode cX8_fillLack 70 = .ok (.getfield 15, 3) := by decide +kernel
theorem dX8_fillLack_73 : decode cX8_fillLack 73 = .ok (.iload_n 2, 1) := by decide +kernel
theorem dX8_fillLack_74 : decode cX8_fillLack 74 = .ok (.iload_n 3, 1) := by decide +kernel
theorem dX8_fillLack_75 : decode cX8_fillLack 75 = .ok (.iadd, 1) := by decide +kernel
theorem dX8_fillLack_76 : decode cX8_fillLack 76 = .ok (.lload 4, 2) := by decide +kernel
theorem dX8_fillLack_78 : decode cX8_fillLack 78 = .ok (.lastore, 1) := by decide +kernel
theorem dX8_fillLack_79 : decode cX8_fillLack 79 = .ok (.iinc 3 1, 3) := by decide +kernel
theorem dX8_fillLack_82 : decode cX8_fillLack 82 = .ok (.goto (-58), 3) := by decide +kernel
theorem dX8_fillLack_85 : decode cX8_fillLack 85 = .ok (.return_, 1) := by decide +kernel
theorem dX8_lackBySpares_0 : decode cX8_lackBySpares 0 = .ok (.lconst 0, 1) := by decide +kernel
theorem dX8_lackBySpares_1 : decode cX8_lackBySpares 1 = .ok (.lstore_n 3, 1) := by decide +kernel
theorem dX8_lackBySpares_2 : decode cX8_lackBySpares 2 = .ok (.iconst 0, 1) := by decide +kernel
theorem dX8_lackBySpares_3 : decode cX8_lackBySpares 3 = .ok (.istore 5, 2) := by decide +kernel
theorem dX8_lackBySpares_5 : decode cX8_lackBySpares 5 = .ok (.iload 5, 2) := by decide +kernel
theorem dX8_lackBySpares_7 : decode cX8_lackBySpares 7 = .ok (.aload_n 1, 1) := by decide +kernel
theorem dX8_lackBySpares_8 : decode cX8_lackBySpares 8 = .ok (.getfield 74, 3) := by decide +kernel
theorem dX8_lackBySpares_11 : decode cX8_lackBySpares 11 = .ok (.if_icmp .ge 56, 3) := by decide +kernel
theorem dX8_lackBySpares_14 : decode cX8_lackBySpares 14 = .ok (.iconst 0, 1) := by decide +kernel
theorem dX8_lackBySpares_15 : decode cX8_lackBySpares 15 = .ok (.istore 6, 2) := by decide +kernel
theorem dX8_lackBySpares_17 : decode cX8_lackBySpares 17 = .ok (.iload 6, 2) := by decide +kernel
theorem dX8_lackBySpares_19 : decode cX8_lackBySpares 19 = .ok (.aload_n 1, 1) := by decide +kernel
theorem dX8_lackBySpares_20 : decode cX8_lackBySpares 20 = .ok (.getfield 77, 3) := by decide +kernel
theorem dX8_lackBySpares_23 : decode cX8_lackBySpares 23 = .ok (.if_icmp .ge 38, 3) := by decide +kernel
theorem dX8_lackBySpares_26 : decode cX8_lackBySpares 26 = .ok (.iload 5, 2) := by decide +kernel
theorem dX8_lackBySpares_28 : decode cX8_lackBySpares 28 = .ok (.iload 6, 2) := by decide +kernel
theorem dX8_lackBySpares_30 : decode cX8_lackBySpares 30 = .ok (.invokestatic 80, 3) := by decide +kernel
theorem dX8_lackBySpares_33 : decode cX8_lackBySpares 33 = .ok (.istore 7, 2) := by decide +kernel
theorem dX8_lackBySpares_35 : decode cX8_lackBySpares 35 = .ok (.iload 7, 2) := by decide +kernel
theorem dX8_lackBySpares_37 : decode cX8_lackBySpares 37 = .ok (.aload_n 2, 1) := by decide +kernel
theorem dX8_lackBySpares_38 : decode cX8_lackBySpares 38 = .ok (.arraylength, 1) := by decide +kernel
theorem dX8_lackBySpares_39 : decode cX8_lackBySpares 39 = .ok (.if_icmp .ge 16, 3) := by decide +kernel
theorem dX8_lackBySpares_42 : decode cX8_lackBySpares 42 = .ok (.lload_n 3, 1) := by decide +kernel
theorem dX8_lackBySpares_43 : decode cX8_lackBySpares 43 = .ok (.aload_n 0, 1) := by decide +kernel
theorem dX8_lackBySpares_44 : decode cX8_lackBySpares 44 = .ok (.iload 7, 2) := by decide +kernel
theorem dX8_lackBySpares_46 : decode cX8_lackBySpares 46 = .ok (.aload_n 2, 1) := by decide +kernel
theorem dX8_lackBySpares_47 : decode cX8_lackBySpares 47 = .ok (.iload 7, 2) := by decide +kernel
theorem dX8_lackBySpares_49 : decode cX8_lackBySpares 49 = .ok (.iaload, 1) := by decide +kernel
theorem dX8_lackBySpares_50 : decode cX8_lackBySpares 50 = .ok (.invokevirtual 84, 3) := by decide +kernel
theorem dX8_lackBySpares_53 : decode cX8_lackBySpares 53 = .ok (.ladd, 1) := by decide +kernel
theorem dX8_lackBySpares_54 : decode cX8_lackBySpares 54 = .ok (.lstore_n 3, 1) := by decide +kernel
theorem dX8_lackBySpares_55 : decode cX8_lackBySpares 55 = .ok (.iinc 6 1, 3) := by decide +kernel
theorem dX8_lackBySpares_58 : decode cX8_lackBySpares 58 = .ok (.goto (-41), 3) := by decide +kernel
theorem dX8_lackBySpares_61 : decode cX8_lackBySpares 61 = .ok (.iinc 5 1, 3) := by decide +kernel
theorem dX8_lackBySpares_64 : decode cX8_lackBySpares 64 = .ok (.goto (-59), 3) := by decide +kernel
theorem dX8_lackBySpares_67 : decode cX8_lackBySpares 67 = .ok (.lload_n 3, 1) := by decide +kernel
theorem dX8_lackBySpares_68 : decode cX8_lackBySpares 68 = .ok (.lreturn, 1) := by decide +kernel
theorem dX8_leastSure_0 : decode cX8_leastSure 0 = .ok (.lconst 0, 1) := by decide +kernel
theorem dX8_leastSure_1 : decode cX8_leastSure 1 = .ok (.lstore_n 3, 1) := by decide +kernel
theorem dX8_leastSure_2 : decode cX8_leastSure 2 = .ok (.iconst 0, 1) := by decide +kernel
theorem dX8_leastSure_3 : decode cX8_leastSure 3 = .ok (.istore 5, 2) := by decide +kernel
theorem dX8_leastSure_5 : decode cX8_leastSure 5 = .ok (.iload 5, 2) := by decide +kernel
theorem dX8_leastSure_7 : decode cX8_leastSure 7 = .ok (.bipush 9, 2) := by decide +kernel
theorem dX8_leastSure_9 : decode cX8_leastSure 9 = .ok (.if_icmp .gt 37, 3) := by decide +kernel
theorem dX8_leastSure_12 : decode cX8_leastSure 12 = .ok (.lload_n 3, 1) := by decide +kernel
theorem dX8_leastSure_13 : decode cX8_leastSure 13 = .ok (.aload_n 0, 1) := by decide +kernel
theorem dX8_leastSure_14 : decode cX8_leastSure 14 = .ok (.iload_n 1, 1) := by decide +kernel
theorem dX8_leastSure_15 : decode cX8_leastSure 15 = .ok (.iload 5, 2) := by decide +kernel
theorem dX8_leastSure_17 : decode cX8_leastSure 17 = .ok (.invokevirtual 70, 3) := by decide +kernel
theorem dX8_leastSure_20 : decode cX8_leastSure 20 = .ok (.ladd, 1) := by decide +kernel
theorem dX8_leastSure_21 : decode cX8_leastSure 21 = .ok (.lstore_n 3, 1) := by decide +kernel
theorem dX8_leastSure_22 : decode cX8_leastSure 22 = .ok (.lload_n 3, 1) := by decide +kernel
theorem dX8_leastSure_23 : decode cX8_leastSure 23 = .ok (.ldc2_w 87, 3) := by decide +kernel
theorem dX8_leastSure_26 : decode cX8_leastSure 26 = .ok (.lmul, 1) := by decide +kernel
theorem dX8_leastSure_27 : decode cX8_leastSure 27 = .ok (.ldc2_w 89, 3) := by decide +kernel
theorem dX8_leastSure_30 : decode cX8_leastSure 30 = .ok (.iload_n 2, 1) := by decide +kernel
theorem dX8_leastSure_31 : decode cX8_leastSure 31 = .ok (.i2l, 1) := by decide +kernel
theorem dX8_leastSure_32 : decode cX8_leastSure 32 = .ok (.lmul, 1) := by decide +kernel
theorem dX8_leastSure_33 : decode cX8_leastSure 33 = .ok (.lcmp, 1) := by decide +kernel
theorem dX8_leastSure_34 : decode cX8_leastSure 34 = .ok (.ifCond .lt 6, 3) := by decide +kernel
theorem dX8_leastSure_37 : decode cX8_leastSure 37 = .ok (.iload 5, 2) := by decide +kernel
theorem dX8_leastSure_39 : decode cX8_leastSure 39 = .ok (.ireturn, 1) := by decide +kernel
theorem dX8_leastSure_40 : decode cX8_leastSure 40 = .ok (.iinc 5 1, 3) := by decide +kernel
theorem dX8_leastSure_43 : decode cX8_leastSure 43 = .ok (.goto (-38), 3) := by decide +kernel
theorem dX8_leastSure_46 : decode cX8_leastSure 46 = .ok (.bipush 9, 2) := by decide +kernel
theorem dX8_leastSure_48 : decode cX8_leastSure 48 = .ok (.ireturn, 1) := by decide +kernel
theorem dX8_learnBuys_0 : decode cX8_learnBuys 0 = .ok (.aload_n 0, 1) := by decide +kernel
theorem dX8_learnBuys_1 : decode cX8_learnBuys 1 = .ok (.aload_n 1, 1) := by decide +kernel
theorem dX8_learnBuys_2 : decode cX8_learnBuys 2 = .ok (.invokevirtual 91, 3) := by decide +kernel
theorem dX8_learnBuys_5 : decode cX8_learnBuys 5 = .ok (.aload_n 0, 1) := by decide +kernel
theorem dX8_learnBuys_6 : decode cX8_learnBuys 6 = .ok (.getfield 48, 3) := by decide +kernel
theorem dX8_learnBuys_9 : decode cX8_learnBuys 9 = .ok (.ifCond .eq 4, 3) := by decide +kernel
theorem dX8_learnBuys_12 : decode cX8_learnBuys 12 = .ok (.return_, 1) := by decide +kernel
theorem dX8_learnBuys_13 : decode cX8_learnBuys 13 = .ok (.iconst 0, 1) := by decide +kernel
theorem dX8_learnBuys_14 : decode cX8_learnBuys 14 = .ok (.istore_n 2, 1) := by decide +kernel
theorem dX8_learnBuys_15 : decode cX8_learnBuys 15 = .ok (.iload_n 2, 1) := by decide +kernel
theorem dX8_learnBuys_16 : decode cX8_learnBuys 16 = .ok (.bipush 16, 2) := by decide +kernel
theorem dX8_learnBuys_18 : decode cX8_learnBuys 18 = .ok (.if_icmp .ge 16, 3) := by decide +kernel
theorem dX8_learnBuys_21 : decode cX8_learnBuys 21 = .ok (.aload_n 0, 1) := by decide +kernel
theorem dX8_learnBuys_22 : decode cX8_learnBuys 22 = .ok (.getfield 32, 3) := by decide +kernel
theorem dX8_learnBuys_25 : decode cX8_learnBuys 25 = .ok (.iload_n 2, 1) := by decide +kernel
theorem dX8_learnBuys_26 : decode cX8_learnBuys 26 = .ok (.iconst 0, 1) := by decide +kernel
theorem dX8_learnBuys_27 : decode cX8_learnBuys 27 = .ok (.iastore, 1) := by decide +kernel
theorem dX8_learnBuys_28 : decode cX8_learnBuys 28 = .ok (.iinc 2 1, 3) := by decide +kernel
theorem dX8_learnBuys_31 : decode cX8_learnBuys 31 = .ok (.goto (-16), 3) := by decide +kernel
theorem dX8_learnBuys_34 : decode cX8_learnBuys 34 = .ok (.aload_n 0, 1) := by decide +kernel
theorem dX8_learnBuys_35 : decode cX8_learnBuys 35 = .ok (.iconst 0, 1) := by decide +kernel
theorem dX8_learnBuys_36 : decode cX8_learnBuys 36 = .ok (.putfield 28, 3) := by decide +kernel
theorem dX8_learnBuys_39 : decode cX8_learnBuys 39 = .ok (.iconst 0, 1) := by decide +kernel
theorem dX8_learnBuys_40 : decode cX8_learnBuys 40 = .ok (.istore_n 2, 1) := by decide +kernel
theorem dX8_learnBuys_41 : decode cX8_learnBuys 41 = .ok (.iconst 0, 1) := by decide +kernel
theorem dX8_learnBuys_42 : decode cX8_learnBuys 42 = .ok (.istore_n 3, 1) := by decide +kernel
theorem dX8_learnBuys_43 : decode cX8_learnBuys 43 = .ok (.iload_n 3, 1) := by decide +kernel
theorem dX8_learnBuys_44 : decode cX8_learnBuys 44 = .ok (.bipush 72, 2) := by decide +kernel
theorem dX8_learnBuys_46 : decode cX8_learnBuys 46 = .ok (.if_icmp .ge 84, 3) := by decide +kernel
theorem dX8_learnBuys_49 : decode cX8_learnBuys 49 = .ok (.aload_n 0, 1) := by decide +kernel
theorem dX8_learnBuys_50 : decode cX8_learnBuys 50 = .ok (.aload_n 1, 1) := by decide +kernel
theorem dX8_learnBuys_51 : decode cX8_learnBuys 51 = .ok (.invokevirtual 95, 3) := by decide +kernel
theorem dX8_learnBuys_54 : decode cX8_learnBuys 54 = .ok (.istore 4, 2) := by decide +kernel
theorem dX8_learnBuys_56 : decode cX8_learnBuys 56 = .ok (.iload 4, 2) := by decide +kernel
theorem dX8_learnBuys_58 : decode cX8_learnBuys 58 = .ok (.iconst (-1), 1) := by decide +kernel
theorem dX8_learnBuys_59 : decode cX8_learnBuys 59 = .ok (.if_icmp .ne 6, 3) := by decide +kernel
theorem dX8_learnBuys_62 : decode cX8_learnBuys 62 = .ok (.goto 68, 3) := by decide +kernel
theorem dX8_learnBuys_65 : decode cX8_learnBuys 65 = .ok (.aload_n 0, 1) := by decide +kernel
theorem dX8_learnBuys_66 : decode cX8_learnBuys 66 = .ok (.getfield 32, 3) := by decide +kernel
theorem dX8_learnBuys_69 : decode cX8_learnBuys 69 = .ok (.iload 4, 2) := by decide +kernel
theorem dX8_learnBuys_71 : decode cX8_learnBuys 71 = .ok (.dup2, 1) := by decide +kernel
theorem dX8_learnBuys_72 : decode cX8_learnBuys 72 = .ok (.iaload, 1) := by decide +kernel
theorem dX8_learnBuys_73 : decode cX8_learnBuys 73 = .ok (.iconst 1, 1) := by decide +kernel
theorem dX8_learnBuys_74 : decode cX8_learnBuys 74 = .ok (.iadd, 1) := by decide +kernel
theorem dX8_learnBuys_75 : decode cX8_learnBuys 75 = .ok (.iastore, 1) := by decide +kernel
theorem dX8_learnBuys_76 : decode cX8_learnBuys 76 = .ok (.iload_n 2, 1) := by decide +kernel
theorem dX8_learnBuys_77 : decode cX8_learnBuys 77 = .ok (.aload_n 1, 1) := by decide +kernel
theorem dX8_learnBuys_78 : decode cX8_learnBuys 78 = .ok (.getfield 99, 3) := by decide +kernel
theorem dX8_learnBuys_81 : decode cX8_learnBuys 81 = .ok (.iload 4, 2) := by decide +kernel
theorem dX8_learnBuys_83 : decode cX8_learnBuys 83 = .ok (.invokestatic 102, 3) := by decide +kernel
theorem dX8_learnBuys_86 : decode cX8_learnBuys 86 = .ok (.iaload, 1) := by decide +kernel
theorem dX8_learnBuys_87 : decode cX8_learnBuys 87 = .ok (.iadd, 1) := by decide +kernel
theorem dX8_learnBuys_88 : decode cX8_learnBuys 88 = .ok (.istore_n 2, 1) := by decide +kernel
theorem dX8_learnBuys_89 : decode cX8_learnBuys 89 = .ok (.aload_n 0, 1) := by decide +kernel
theorem dX8_learnBuys_90 : decode cX8_learnBuys 90 = .ok (.getfield 18, 3) := by decide +kernel
theorem dX8_learnBuys_93 : decode cX8_learnBuys 93 = .ok (.iload_n 3, 1) := by decide +kernel
theorem dX8_learnBuys_94 : decode cX8_learnBuys 94 = .ok (.iload 4, 2) := by decide +kernel
theorem dX8_learnBuys_96 : decode cX8_learnBuys 96 = .ok (.iastore, 1) := by decide +kernel
theorem dX8_learnBuys_97 : decode cX8_learnBuys 97 = .ok (.aload_n 0, 1) := by decide +kernel
theorem dX8_learnBuys_98 : decode cX8_learnBuys 98 = .ok (.getfield 22, 3) := by decide +kernel
theorem dX8_learnBuys_101 : decode cX8_learnBuys 101 = .ok (.iload_n 3, 1) := by decide +kernel
theorem dX8_learnBuys_102 : decode cX8_learnBuys 102 = .ok (.aload_n 0, 1) := by decide +kernel
theorem dX8_learnBuys_103 : decode cX8_learnBuys 103 = .ok (.getfield 32, 3) := by decide +kernel
theorem dX8_learnBuys_106 : decode cX8_learnBuys 106 = .ok (.iload 4, 2) := by decide +kernel
theorem dX8_learnBuys_108 : decode cX8_learnBuys 108 = .ok (.iaload, 1) := by decide +kernel
theorem dX8_learnBuys_109 : decode cX8_learnBuys 109 = .ok (.iastore, 1) := by decide +kernel
theorem dX8_learnBuys_110 : decode cX8_learnBuys 110 = .ok (.aload_n 0, 1) := by decide +kernel
theorem dX8_learnBuys_111 : decode cX8_learnBuys 111 = .ok (.getfield 25, 3) := by decide +kernel
theorem dX8_learnBuys_114 : decode cX8_learnBuys 114 = .ok (.iload_n 3, 1) := by decide +kernel
theorem dX8_learnBuys_115 : decode cX8_learnBuys 115 = .ok (.iload_n 2, 1) := by decide +kernel
theorem dX8_learnBuys_116 : decode cX8_learnBuys 116 = .ok (.iastore, 1) := by decide +kernel
theorem dX8_learnBuys_117 : decode cX8_learnBuys 117 = .ok (.aload_n 0, 1) := by decide +kernel
theorem dX8_learnBuys_118 : decode cX8_learnBuys 118 = .ok (.iload_n 3, 1) := by decide +kernel
theorem dX8_learnBuys_119 : decode cX8_learnBuys 119 = .ok (.iconst 1, 1) := by decide +kernel
theorem dX8_learnBuys_120 : decode cX8_learnBuys 120 = .ok (.iadd, 1) := by decide +kernel
theorem dX8_learnBuys_121 : decode cX8_learnBuys 121 = .ok (.putfield 28, 3) := by decide +kernel
theorem dX8_learnBuys_124 : decode cX8_learnBuys 124 = .ok (.iinc 3 1, 3) := by decide +kernel
theorem dX8_learnBuys_127 : decode cX8_learnBuys 127 = .ok (.goto (-84), 3) := by decide +kernel
theorem dX8_learnBuys_130 : decode cX8_learnBuys 130 = .ok (.aload_n 0, 1) := by decide +kernel
theorem dX8_learnBuys_131 : decode cX8_learnBuys 131 = .ok (.iconst 1, 1) := by decide +kernel
theorem dX8_learnBuys_132 : decode cX8_learnBuys 132 = .ok (.putfield 48, 3) := by decide +kernel
theorem dX8_learnBuys_135 : decode cX8_learnBuys 135 = .ok (.return_, 1) := by decide +kernel
theorem dX8_nextBuy_0 : decode cX8_nextBuy 0 = .ok (.iconst (-1), 1) := by decide +kernel
theorem dX8_nextBuy_1 : decode cX8_nextBuy 1 = .ok (.istore_n 2, 1) := by decide +kernel
theorem dX8_nextBuy_2 : decode cX8_nextBuy 2 = .ok (.lconst 0, 1) := by decide +kernel
theorem dX8_nextBuy_3 : decode cX8_nextBuy 3 = .ok (.lstore_n 3, 1) := by decide +kernel
theorem dX8_nextBuy_4 : decode cX8_nextBuy 4 = .ok (.iconst 1, 1) := by decide +kernel
theorem dX8_nextBuy_5 : decode cX8_nextBuy 5 = .ok (.istore 5, 2) := by decide +kernel
theorem dX8_nextBuy_7 : decode cX8_nextBuy 7 = .ok (.iconst 0, 1) := by decide +kernel
theorem dX8_nextBuy_8 : decode cX8_nextBuy 8 = .ok (.istore 6, 2) := by decide +kernel
theorem dX8_nextBuy_10 : decode cX8_nextBuy 10 = .ok (.iload 6, 2) := by decide +kernel
theorem dX8_nextBuy_12 : decode cX8_nextBuy 12 = .ok (.aload_n 1, 1) := by decide +kernel
theorem dX8_nextBuy_13 : decode cX8_nextBuy 13 = .ok (.getfield 74, 3) := by decide +kernel
theorem dX8_nextBuy_16 : decode cX8_nextBuy 16 = .ok (.if_icmp .ge 91, 3) := by decide +kernel
theorem dX8_nextBuy_19 : decode cX8_nextBuy 19 = .ok (.iload 6, 2) := by decide +kernel
theorem dX8_nextBuy_21 : decode cX8_nextBuy 21 = .ok (.iconst 3, 1) := by decide +kernel
theorem dX8_nextBuy_22 : decode cX8_nextBuy 22 = .ok (.if_icmp .ge 85, 3) := by decide +kernel
theorem dX8_nextBuy_25 : decode cX8_nextBuy 25 = .ok (.iconst 0, 1) := by decide +kernel
theorem dX8_nextBuy_26 : decode cX8_nextBuy 26 = .ok (.istore 7, 2) := by decide +kernel
theorem dX8_nextBuy_28 : decode cX8_nextBuy 28 = .ok (.iload 7, 2) := by decide +kernel
theorem dX8_nextBuy_30 : decode cX8_nextBuy 30 = .ok (.aload_n 1, 1) := by decide +kernel
theorem dX8_nextBuy_31 : decode cX8_nextBuy 31 = .ok (.getfield 77, 3) := by decide +kernel
theorem dX8_nextBuy_34 : decode cX8_nextBuy 34 = .ok (.if_icmp .ge 67, 3) := by decide +kernel
theorem dX8_nextBuy_37 : decode cX8_nextBuy 37 = .ok (.iload 7, 2) := by decide +kernel
theorem dX8_nextBuy_39 : decode cX8_nextBuy 39 = .ok (.iconst 3, 1) := by decide +kernel
theorem dX8_nextBuy_40 : decode cX8_nextBuy 40 = .ok (.if_icmp .ge 61, 3) := by decide +kernel
theorem dX8_nextBuy_43 : decode cX8_nextBuy 43 = .ok (.iload 6, 2) := by decide +kernel
theorem dX8_nextBuy_45 : decode cX8_nextBuy 45 = .ok (.iload 7, 2) := by decide +kernel
theorem dX8_nextBuy_47 : decode cX8_nextBuy 47 = .ok (.invokestatic 80, 3) := by decide +kernel
theorem dX8_nextBuy_50 : decode cX8_nextBuy 50 = .ok (.istore 8, 2) := by decide +kernel
theorem dX8_nextBuy_52 : decode cX8_nextBuy 52 = .ok (.aload_n 0, 1) := by decide +kernel
theorem dX8_nextBuy_53 : decode cX8_nextBuy 53 = .ok (.iload 8, 2) := by decide +kernel
theorem dX8_nextBuy_55 : decode cX8_nextBuy 55 = .ok (.invokevirtual 106, 3) := by decide +kernel
theorem dX8_nextBuy_58 : decode cX8_nextBuy 58 = .ok (.lstore 9, 2) := by decide +kernel
theorem dX8_nextBuy_60 : decode cX8_nextBuy 60 = .ok (.lload 9, 2) := by decide +kernel
theorem dX8_nextBuy_62 : decode cX8_nextBuy 62 = .ok (.iload 5, 2) := by decide +kernel
theorem dX8_nextBuy_64 : decode cX8_nextBuy 64 = .ok (.i2l, 1) := by decide +kernel
theorem dX8_nextBuy_65 : decode cX8_nextBuy 65 = .ok (.lmul, 1) := by decide +kernel
theorem dX8_nextBuy_66 : decode cX8_nextBuy 66 = .ok (.lload_n 3, 1) := by decide +kernel
theorem dX8_nextBuy_67 : decode cX8_nextBuy 67 = .ok (.aload_n 1, 1) := by decide +kernel
theorem dX8_nextBuy_68 : decode cX8_nextBuy 68 = .ok (.getfield 99, 3) := by decide +kernel
theorem dX8_nextBuy_71 : decode cX8_nextBuy 71 = .ok (.iload 7, 2) := by decide +kernel
theorem dX8_nextBuy_73 : decode cX8_nextBuy 73 = .ok (.iaload, 1) := by decide +kernel
theorem dX8_nextBuy_74 : decode cX8_nextBuy 74 = .ok (.i2l, 1) := by decide +kernel
theorem dX8_nextBuy_75 : decode cX8_nextBuy 75 = .ok (.lmul, 1) := by decide +kernel
theorem dX8_nextBuy_76 : decode cX8_nextBuy 76 = .ok (.lcmp, 1) := by decide +kernel
theorem dX8_nextBuy_77 : decode cX8_nextBuy 77 = .ok (.ifCond .le 18, 3) := by decide +kernel
theorem dX8_nextBuy_80 : decode cX8_nextBuy 80 = .ok (.iload 8, 2) := by decide +kernel
theorem dX8_nextBuy_82 : decode cX8_nextBuy 82 = .ok (.istore_n 2, 1) := by decide +kernel
theorem dX8_nextBuy_83 : decode cX8_nextBuy 83 = .ok (.lload 9, 2) := by decide +kernel
theorem dX8_nextBuy_85 : decode cX8_nextBuy 85 = .ok (.lstore_n 3, 1) := by decide +kernel
theorem dX8_nextBuy_86 : decode cX8_nextBuy 86 = .ok (.aload_n 1, 1) := by decide +kernel
theorem dX8_nextBuy_87 : decode cX8_nextBuy 87 = .ok (.getfield 99, 3) := by decide +kernel
theorem dX8_nextBuy_90 : decode cX8_nextBuy 90 = .ok (.iload 7, 2) := by decide +kernel
theorem dX8_nextBuy_92 : decode cX8_nextBuy 92 = .ok (.iaload, 1) := by decide +kernel
theorem dX8_nextBuy_93 : decode cX8_nextBuy 93 = .ok (.istore 5, 2) := by decide +kernel
theorem dX8_nextBuy_95 : decode cX8_nextBuy 95 = .ok (.iinc 7 1, 3) := by decide +kernel
theorem dX8_nextBuy_98 : decode cX8_nextBuy 98 = .ok (.goto (-70), 3) := by decide +kernel
theorem dX8_nextBuy_101 : decode cX8_nextBuy 101 = .ok (.iinc 6 1, 3) := by decide +kernel
theorem dX8_nextBuy_104 : decode cX8_nextBuy 104 = .ok (.goto (-94), 3) := by decide +kernel
theorem dX8_nextBuy_107 : decode cX8_nextBuy 107 = .ok (.iload_n 2, 1) := by decide +kernel
theorem dX8_nextBuy_108 : decode cX8_nextBuy 108 = .ok (.ireturn, 1) := by decide +kernel
theorem dX8_gainOf_0 : decode cX8_gainOf 0 = .ok (.aload_n 0, 1) := by decide +kernel
theorem dX8_gainOf_1 : decode cX8_gainOf 1 = .ok (.getfield 32, 3) := by decide +kernel
theorem dX8_gainOf_4 : decode cX8_gainOf 4 = .ok (.iload_n 1, 1) := by decide +kernel
theorem dX8_gainOf_5 : decode cX8_gainOf 5 = .ok (.bipush 15, 2) := by decide +kernel
theorem dX8_gainOf_7 : decode cX8_gainOf 7 = .ok (.iand, 1) := by decide +kernel
theorem dX8_gainOf_8 : decode cX8_gainOf 8 = .ok (.iaload, 1) := by decide +kernel
theorem dX8_gainOf_9 : decode cX8_gainOf 9 = .ok (.istore_n 2, 1) := by decide +kernel
theorem dX8_gainOf_10 : decode cX8_gainOf 10 = .ok (.iload_n 2, 1) := by decide +kernel
theorem dX8_gainOf_11 : decode cX8_gainOf 11 = .ok (.bipush 9, 2) := by decide +kernel
theorem dX8_gainOf_13 : decode cX8_gainOf 13 = .ok (.if_icmp .ge 21, 3) := by decide +kernel
theorem dX8_gainOf_16 : decode cX8_gainOf 16 = .ok (.aload_n 0, 1) := by decide +kernel
theorem dX8_gainOf_17 : decode cX8_gainOf 17 = .ok (.iload_n 1, 1) := by decide +kernel
theorem dX8_gainOf_18 : decode cX8_gainOf 18 = .ok (.iload_n 2, 1) := by decide +kernel
theorem dX8_gainOf_19 : decode cX8_gainOf 19 = .ok (.invokevirtual 84, 3) := by decide +kernel
theorem dX8_gainOf_22 : decode cX8_gainOf 22 = .ok (.aload_n 0, 1) := by decide +kernel
theorem dX8_gainOf_23 : decode cX8_gainOf 23 = .ok (.iload_n 1, 1) := by decide +kernel
theorem dX8_gainOf_24 : decode cX8_gainOf 24 = .ok (.iload_n 2, 1) := by decide +kernel
theorem dX8_gainOf_25 : decode cX8_gainOf 25 = .ok (.iconst 1, 1) := by decide +kernel
theorem dX8_gainOf_26 : decode cX8_gainOf 26 = .ok (.iadd, 1) := by decide +kernel
theorem dX8_gainOf_27 : decode cX8_gainOf 27 = .ok (.invokevirtual 84, 3) := by decide +kernel
theorem dX8_gainOf_30 : decode cX8_gainOf 30 = .ok (.lsub, 1) := by decide +kernel
theorem dX8_gainOf_31 : decode cX8_gainOf 31 = .ok (.goto 4, 3) := by decide +kernel
theorem dX8_gainOf_34 : decode cX8_gainOf 34 = .ok (.lconst 0, 1) := by decide +kernel
theorem dX8_gainOf_35 : decode cX8_gainOf 35 = .ok (.lreturn, 1) := by decide +kernel
theorem dX8_buysWithin_0 : decode cX8_buysWithin 0 = .ok (.iconst 0, 1) := by decide +kernel
theorem dX8_buysWithin_1 : decode cX8_buysWithin 1 = .ok (.istore_n 2, 1) := by decide +kernel
theorem dX8_buysWithin_2 : decode cX8_buysWithin 2 = .ok (.iload_n 2, 1) := by decide +kernel
theorem dX8_buysWithin_3 : decode cX8_buysWithin 3 = .ok (.aload_n 0, 1) := by decide +kernel
theorem dX8_buysWithin_4 : decode cX8_buysWithin 4 = .ok (.getfield 28, 3) := by decide +kernel
theorem dX8_buysWithin_7 : decode cX8_buysWithin 7 = .ok (.if_icmp .ge 25, 3) := by decide +kernel
theorem dX8_buysWithin_10 : decode cX8_buysWithin 10 = .ok (.iload_n 2, 1) := by decide +kernel
theorem dX8_buysWithin_11 : decode cX8_buysWithin 11 = .ok (.bipush 72, 2) := by decide +kernel
theorem dX8_buysWithin_13 : decode cX8_buysWithin 13 = .ok (.if_icmp .ge 19, 3) := by decide +kernel
theorem dX8_buysWithin_16 : decode cX8_buysWithin 16 = .ok (.aload_n 0, 1) := by decide +kernel
theorem dX8_buysWithin_17 : decode cX8_buysWithin 17 = .ok (.getfield 25, 3) := by decide +kernel
theorem dX8_buysWithin_20 : decode cX8_buysWithin 20 = .ok (.iload_n 2, 1) := by decide +kernel
theorem dX8_buysWithin_21 : decode cX8_buysWithin 21 = .ok (.iaload, 1) := by decide +kernel
theorem dX8_buysWithin_22 : decode cX8_buysWithin 22 = .ok (.iload_n 1, 1) := by decide +kernel
theorem dX8_buysWithin_23 : decode cX8_buysWithin 23 = .ok (.if_icmp .gt 9, 3) := by decide +kernel
theorem dX8_buysWithin_26 : decode cX8_buysWithin 26 = .ok (.iinc 2 1, 3) := by decide +kernel
theorem dX8_buysWithin_29 : decode cX8_buysWithin 29 = .ok (.goto (-27), 3) := by decide +kernel
theorem dX8_buysWithin_32 : decode cX8_buysWithin 32 = .ok (.iload_n 2, 1) := by decide +kernel
theorem dX8_buysWithin_33 : decode cX8_buysWithin 33 = .ok (.ireturn, 1) := by decide +kernel
theorem dX8_buysOfBase_0 : decode cX8_buysOfBase 0 = .ok (.iconst 0, 1) := by decide +kernel
theorem dX8_buysOfBase_1 : decode cX8_buysOfBase 1 = .ok (.istore_n 3, 1) := by decide +kernel
theorem dX8_buysOfBase_2 : decode cX8_buysOfBase 2 = .ok (.iconst 0, 1) := by decide +kernel
theorem dX8_buysOfBase_3 : decode cX8_buysOfBase 3 = .ok (.istore 4, 2) := by decide +kernel
theorem dX8_buysOfBase_5 : decode cX8_buysOfBase 5 = .ok (.iload 4, 2) := by decide +kernel
theorem dX8_buysOfBase_7 : decode cX8_buysOfBase 7 = .ok (.iload_n 1, 1) := by decide +kernel
theorem dX8_buysOfBase_8 : decode cX8_buysOfBase 8 = .ok (.if_icmp .ge 33, 3) := by decide +kernel
theorem dX8_buysOfBase_11 : decode cX8_buysOfBase 11 = .ok (.iload 4, 2) := by decide +kernel
theorem dX8_buysOfBase_13 : decode cX8_buysOfBase 13 = .ok (.bipush 72, 2) := by decide +kernel
theorem dX8_buysOfBase_15 : decode cX8_buysOfBase 15 = .ok (.if_icmp .ge 26, 3) := by decide +kernel
theorem dX8_buysOfBase_18 : decode cX8_buysOfBase 18 = .ok (.aload_n 0, 1) := by decide +kernel
theorem dX8_buysOfBase_19 : decode cX8_buysOfBase 19 = .ok (.getfield 18, 3) := by decide +kernel
theorem dX8_buysOfBase_22 : decode cX8_buysOfBase 22 = .ok (.iload 4, 2) := by decide +kernel
theorem dX8_buysOfBase_24 : decode cX8_buysOfBase 24 = .ok (.iaload, 1) := by decide +kernel
theorem dX8_buysOfBase_25 : decode cX8_buysOfBase 25 = .ok (.invokestatic 110, 3) := by decide +kernel
theorem dX8_buysOfBase_28 : decode cX8_buysOfBase 28 = .ok (.iload_n 2, 1) := by decide +kernel
theorem dX8_buysOfBase_29 : decode cX8_buysOfBase 29 = .ok (.if_icmp .ne 6, 3) := by decide +kernel
theorem dX8_buysOfBase_32 : decode cX8_buysOfBase 32 = .ok (.iinc 3 1, 3) := by decide +kernel
theorem dX8_buysOfBase_35 : decode cX8_buysOfBase 35 = .ok (.iinc 4 1, 3) := by decide +kernel
theorem dX8_buysOfBase_38 : decode cX8_buysOfBase 38 = .ok (.goto (-33), 3) := by decide +kernel
theorem dX8_buysOfBase_41 : decode cX8_buysOfBase 41 = .ok (.iload_n 3, 1) := by decide +kernel
theorem dX8_buysOfBase_42 : decode cX8_buysOfBase 42 = .ok (.ireturn, 1) := by decide +kernel
theorem dX8_countBuys_0 : decode cX8_countBuys 0 = .ok (.iconst 0, 1) := by decide +kernel
theorem dX8_countBuys_1 : decode cX8_countBuys 1 = .ok (.istore_n 2, 1) := by decide +kernel
theorem dX8_countBuys_2 : decode cX8_countBuys 2 = .ok (.iload_n 2, 1) := by decide +kernel
theorem dX8_countBuys_3 : decode cX8_countBuys 3 = .ok (.bipush 16, 2) := by decide +kernel
theorem dX8_countBuys_5 : decode cX8_countBuys 5 = .ok (.if_icmp .ge 16, 3) := by decide +kernel
theorem dX8_countBuys_8 : decode cX8_countBuys 8 = .ok (.aload_n 0, 1) := by decide +kernel
theorem dX8_countBuys_9 : decode cX8_countBuys 9 = .ok (.getfield 32, 3) := by decide +kernel
theorem dX8_countBuys_12 : decode cX8_countBuys 12 = .ok (.iload_n 2, 1) := by decide +kernel
theorem dX8_countBuys_13 : decode cX8_countBuys 13 = .ok (.iconst 0, 1) := by decide +kernel
theorem dX8_countBuys_14 : decode cX8_countBuys 14 = .ok (.iastore, 1) := by decide +kernel
theorem dX8_countBuys_15 : decode cX8_countBuys 15 = .ok (.iinc 2 1, 3) := by decide +kernel
theorem dX8_countBuys_18 : decode cX8_countBuys 18 = .ok (.goto (-16), 3) := by decide +kernel
theorem dX8_countBuys_21 : decode cX8_countBuys 21 = .ok (.iconst 0, 1) := by decide +kernel
theorem dX8_countBuys_22 : decode cX8_countBuys 22 = .ok (.istore_n 2, 1) := by decide +kernel
theorem dX8_countBuys_23 : decode cX8_countBuys 23 = .ok (.iload_n 2, 1) := by decide +kernel
theorem dX8_countBuys_24 : decode cX8_countBuys 24 = .ok (.iload_n 1, 1) := by decide +kernel
theorem dX8_countBuys_25 : decode cX8_countBuys 25 = .ok (.if_icmp .ge 33, 3) := by decide +kernel
theorem dX8_countBuys_28 : decode cX8_countBuys 28 = .ok (.iload_n 2, 1) := by decide +kernel
theorem dX8_countBuys_29 : decode cX8_countBuys 29 = .ok (.bipush 72, 2) := by decide +kernel
theorem dX8_countBuys_31 : decode cX8_countBuys 31 = .ok (.if_icmp .ge 27, 3) := by decide +kernel
theorem dX8_countBuys_34 : decode cX8_countBuys 34 = .ok (.aload_n 0, 1) := by decide +kernel
theorem dX8_countBuys_35 : decode cX8_countBuys 35 = .ok (.getfield 32, 3) := by decide +kernel
theorem dX8_countBuys_38 : decode cX8_countBuys 38 = .ok (.aload_n 0, 1) := by decide +kernel
theorem dX8_countBuys_39 : decode cX8_countBuys 39 = .ok (.getfield 18, 3) := by decide +kernel
theorem dX8_countBuys_42 : decode cX8_countBuys 42 = .ok (.iload_n 2, 1) := by decide +kernel
theorem dX8_countBuys_43 : decode cX8_countBuys 43 = .ok (.iaload, 1) := by decide +kernel
theorem dX8_countBuys_44 : decode cX8_countBuys 44 = .ok (.bipush 15, 2) := by decide +kernel
theorem dX8_countBuys_46 : decode cX8_countBuys 46 = .ok (.iand, 1) := by decide +kernel
theorem dX8_countBuys_47 : decode cX8_countBuys 47 = .ok (.dup2, 1) := by decide +kernel
theorem dX8_countBuys_48 : decode cX8_countBuys 48 = .ok (.iaload, 1) := by decide +kernel
theorem dX8_countBuys_49 : decode cX8_countBuys 49 = .ok (.iconst 1, 1) := by decide +kernel
theorem dX8_countBuys_50 : decode cX8_countBuys 50 = .ok (.iadd, 1) := by decide +kernel
theorem dX8_countBuys_51 : decode cX8_countBuys 51 = .ok (.iastore, 1) := by decide +kernel
theorem dX8_countBuys_52 : decode cX8_countBuys 52 = .ok (.iinc 2 1, 3) := by decide +kernel
theorem dX8_countBuys_55 : decode cX8_countBuys 55 = .ok (.goto (-32), 3) := by decide +kernel
theorem dX8_countBuys_58 : decode cX8_countBuys 58 = .ok (.return_, 1) := by decide +kernel
theorem dX8_learnBest_0 : decode cX8_learnBest 0 = .ok (.aload_n 0, 1) := by decide +kernel
theorem dX8_learnBest_1 : decode cX8_learnBest 1 = .ok (.aload_n 1, 1) := by decide +kernel
theorem dX8_learnBest_2 : decode cX8_learnBest 2 = .ok (.invokevirtual 91, 3) := by decide +kernel
theorem dX8_learnBest_5 : decode cX8_learnBest 5 = .ok (.aload_n 0, 1) := by decide +kernel
theorem dX8_learnBest_6 : decode cX8_learnBest 6 = .ok (.getfield 51, 3) := by decide +kernel
theorem dX8_learnBest_9 : decode cX8_learnBest 9 = .ok (.ifCond .eq 4, 3) := by decide +kernel
theorem dX8_learnBest_12 : decode cX8_learnBest 12 = .ok (.return_, 1) := by decide +kernel
theorem dX8_learnBest_13 : decode cX8_learnBest 13 = .ok (.iconst 0, 1) := by decide +kernel
theorem dX8_learnBest_14 : decode cX8_learnBest 14 = .ok (.istore_n 2, 1) := by decide +kernel
theorem dX8_learnBest_15 : decode cX8_learnBest 15 = .ok (.iload_n 2, 1) := by decide +kernel
theorem dX8_learnBest_16 : decode cX8_learnBest 16 = .ok (.bipush 100, 2) := by decide +kernel
theorem dX8_learnBest_18 : decode cX8_learnBest 18 = .ok (.if_icmp .ge 31, 3) := by decide +kernel
theorem dX8_learnBest_21 : decode cX8_learnBest 21 = .ok (.aload_n 0, 1) := by decide +kernel
theorem dX8_learnBest_22 : decode cX8_learnBest 22 = .ok (.getfield 35, 3) := by decide +kernel
theorem dX8_learnBest_25 : decode cX8_learnBest 25 = .ok (.sipush 900, 3) := by decide +kernel
theorem dX8_learnBest_28 : decode cX8_learnBest 28 = .ok (.iload_n 2, 1) := by decide +kernel
theorem dX8_learnBest_29 : decode cX8_learnBest 29 = .ok (.iadd, 1) := by decide +kernel
theorem dX8_learnBest_30 : decode cX8_learnBest 30 = .ok (.lconst 0, 1) := by decide +kernel
theorem dX8_learnBest_31 : decode cX8_learnBest 31 = .ok (.lastore, 1) := by decide +kernel
theorem dX8_learnBest_32 : decode cX8_learnBest 32 = .ok (.aload_n 0, 1) := by decide +kernel
theorem dX8_learnBest_33 : decode cX8_learnBest 33 = .ok (.getfield 38, 3) := by decide +kernel
theorem dX8_learnBest_36 : decode cX8_learnBest 36 = .ok (.sipush 900, 3) := by decide +kernel
theorem dX8_learnBest_39 : decode cX8_learnBest 39 = .ok (.iload_n 2, 1) := by decide +kernel
theorem dX8_learnBest_40 : decode cX8_learnBest 40 = .ok (.iadd, 1) := by decide +kernel
theorem dX8_learnBest_41 : decode cX8_learnBest 41 = .ok (.iconst 0, 1) := by decide +kernel
theorem dX8_learnBest_42 : decode cX8_learnBest 42 = .ok (.iastore, 1) := by decide +kernel
theorem dX8_learnBest_43 : decode cX8_learnBest 43 = .ok (.iinc 2 1, 3) := by decide +kernel
theorem dX8_learnBest_46 : decode cX8_learnBest 46 = .ok (.goto (-31), 3) := by decide +kernel
theorem dX8_learnBest_49 : decode cX8_learnBest 49 = .ok (.bipush 8, 2) := by decide +kernel
theorem dX8_learnBest_51 : decode cX8_learnBest 51 = .ok (.istore_n 2, 1) := by decide +kernel
theorem dX8_learnBest_52 : decode cX8_learnBest 52 = .ok (.iload_n 2, 1) := by decide +kernel
theorem dX8_learnBest_53 : decode cX8_learnBest 53 = .ok (.ifCond .lt 30, 3) := by decide +kernel
theorem dX8_learnBest_56 : decode cX8_learnBest 56 = .ok (.iconst 0, 1) := by decide +kernel
theorem dX8_learnBest_57 : decode cX8_learnBest 57 = .ok (.istore_n 3, 1) := by decide +kernel
theorem dX8_learnBest_58 : decode cX8_learnBest 58 = .ok (.iload_n 3, 1) := by decide +kernel
theorem dX8_learnBest_59 : decode cX8_learnBest 59 = .ok (.bipush 100, 2) := by decide +kernel
theorem dX8_learnBest_61 : decode cX8_learnBest 61 = .ok (.if_icmp .ge 16, 3) := by decide +kernel
theorem dX8_learnBest_64 : decode cX8_learnBest 64 = .ok (.aload_n 0, 1) := by decide +kernel
theorem dX8_learnBest_65 : decode cX8_learnBest 65 = .ok (.aload_n 1, 1) := by decide +kernel
theorem dX8_learnBest_66 : decode cX8_learnBest 66 = .ok (.iload_n 2, 1) := by decide +kernel
theorem dX8_learnBest_67 : decode cX8_learnBest 67 = .ok (.iload_n 3, 1) := by decide +kernel
theorem dX8_learnBest_68 : decode cX8_learnBest 68 = .ok (.invokevirtual 113, 3) := by decide +kernel
theorem dX8_learnBest_71 : decode cX8_learnBest 71 = .ok (.iinc 3 1, 3) := by decide +kernel
theorem dX8_learnBest_74 : decode cX8_learnBest 74 = .ok (.goto (-16), 3) := by decide +kernel
theorem dX8_learnBest_77 : decode cX8_learnBest 77 = .ok (.iinc 2 (-1), 3) := by decide +kernel
theorem dX8_learnBest_80 : decode cX8_learnBest 80 = .ok (.goto (-28), 3) := by decide +kernel
theorem dX8_learnBest_83 : decode cX8_learnBest 83 = .ok (.aload_n 0, 1) := by decide +kernel
theorem dX8_learnBest_84 : decode cX8_learnBest 84 = .ok (.iconst 1, 1) := by decide +kernel
theorem dX8_learnBest_85 : decode cX8_learnBest 85 = .ok (.putfield 51, 3) := by decide +kernel
theorem dX8_learnBest_88 : decode cX8_learnBest 88 = .ok (.return_, 1) := by decide +kernel
theorem dX8_pickSpares_0 : decode cX8_pickSpares 0 = .ok (.iload_n 2, 1) := by decide +kernel
theorem dX8_pickSpares_1 : decode cX8_pickSpares 1 = .ok (.iconst 3, 1) := by decide +kernel
theorem dX8_pickSpares_2 : decode cX8_pickSpares 2 = .ok (.irem, 1) := by decide +kernel
theorem dX8_pickSpares_3 : decode cX8_pickSpares 3 = .ok (.istore 4, 2) := by decide +kernel
theorem dX8_pickSpares_5 : decode cX8_pickSpares 5 = .ok (.iload_n 2, 1) := by decide +kernel
theorem dX8_pickSpares_6 : decode cX8_pickSpares 6 = .ok (.iconst 3, 1) := by decide +kernel
theorem dX8_pickSpares_7 : decode cX8_pickSpares 7 = .ok (.idiv, 1) := by decide +kernel
theorem dX8_pickSpares_8 : decode cX8_pickSpares 8 = .ok (.iload 4, 2) := by decide +kernel
theorem dX8_pickSpares_10 : decode cX8_pickSpares 10 = .ok (.invokestatic 80, 3) := by decide +kernel
theorem dX8_pickSpares_13 : decode cX8_pickSpares 13 = .ok (.bipush 15, 2) := by decide +kernel
theorem dX8_pickSpares_15 : decode cX8_pickSpares 15 = .ok (.iand, 1) := by decide +kernel
theorem dX8_pickSpares_16 : decode cX8_pickSpares 16 = .ok (.istore 5, 2) := by decide +kernel
theorem dX8_pickSpares_18 : decode cX8_pickSpares 18 = .ok (.aload_n 1, 1) := by decide +kernel
theorem dX8_pickSpares_19 : decode cX8_pickSpares 19 = .ok (.getfield 99, 3) := by decide +kernel
theorem dX8_pickSpares_22 : decode cX8_pickSpares 22 = .ok (.iload 4, 2) := by decide +kernel
theorem dX8_pickSpares_24 : decode cX8_pickSpares 24 = .ok (.iaload, 1) := by decide +kernel
theorem dX8_pickSpares_25 : decode cX8_pickSpares 25 = .ok (.istore 6, 2) := by decide +kernel
theorem dX8_pickSpares_27 : decode cX8_pickSpares 27 = .ok (.iload_n 2, 1) := by decide +kernel
theorem dX8_pickSpares_28 : decode cX8_pickSpares 28 = .ok (.bipush 100, 2) := by decide +kernel
theorem dX8_pickSpares_30 : decode cX8_pickSpares 30 = .ok (.imul, 1) := by decide +kernel
theorem dX8_pickSpares_31 : decode cX8_pickSpares 31 = .ok (.iload_n 3, 1) := by decide +kernel
theorem dX8_pickSpares_32 : decode cX8_pickSpares 32 = .ok (.iadd, 1) := by decide +kernel
theorem dX8_pickSpares_33 : decode cX8_pickSpares 33 = .ok (.istore 7, 2) := by decide +kernel
theorem dX8_pickSpares_35 : decode cX8_pickSpares 35 = .ok (.iconst 0, 1) := by decide +kernel
theorem dX8_pickSpares_36 : decode cX8_pickSpares 36 = .ok (.istore 8, 2) := by decide +kernel
theorem dX8_pickSpares_38 : decode cX8_pickSpares 38 = .ok (.iload 8, 2) := by decide +kernel
theorem dX8_pickSpares_40 : decode cX8_pickSpares 40 = .ok (.aload_n 1, 1) := by decide +kernel
theorem dX8_pickSpares_41 : decode cX8_pickSpares 41 = .ok (.getfield 54, 3) := by decide +kernel
theorem dX8_pickSpares_44 : decode cX8_pickSpares 44 = .ok (.iload 5, 2) := by decide +kernel
theorem dX8_pickSpares_46 : decode cX8_pickSpares 46 = .ok (.iaload, 1) := by decide +kernel
theorem dX8_pickSpares_47 : decode cX8_pickSpares 47 = .ok (.if_icmp .gt 137, 3) := by decide +kernel
theorem dX8_pickSpares_50 : decode cX8_pickSpares 50 = .ok (.iload 8, 2) := by decide +kernel
theorem dX8_pickSpares_52 : decode cX8_pickSpares 52 = .ok (.iload 6, 2) := by decide +kernel
theorem dX8_pickSpares_54 : decode cX8_pickSpares 54 = .ok (.imul, 1) := by decide +kernel
theorem dX8_pickSpares_55 : decode cX8_pickSpares 55 = .ok (.iload_n 3, 1) := by decide +kernel
theorem dX8_pickSpares_56 : decode cX8_pickSpares 56 = .ok (.if_icmp .gt 128, 3) := by decide +kernel
theorem dX8_pickSpares_59 : decode cX8_pickSpares 59 = .ok (.iload_n 2, 1) := by decide +kernel
theorem dX8_pickSpares_60 : decode cX8_pickSpares 60 = .ok (.iconst 1, 1) := by decide +kernel
theorem dX8_pickSpares_61 : decode cX8_pickSpares 61 = .ok (.iadd, 1) := by decide +kernel
theorem dX8_pickSpares_62 : decode cX8_pickSpares 62 = .ok (.bipush 100, 2) := by decide +kernel
theorem dX8_pickSpares_64 : decode cX8_pickSpares 64 = .ok (.imul, 1) := by decide +kernel
theorem dX8_pickSpares_65 : decode cX8_pickSpares 65 = .ok (.iload_n 3, 1) := by decide +kernel
theorem dX8_pickSpares_66 : decode cX8_pickSpares 66 = .ok (.iadd, 1) := by decide +kernel
theorem dX8_pickSpares_67 : decode cX8_pickSpares 67 = .ok (.iload 8, 2) := by decide +kernel
theorem dX8_pickSpares_69 : decode cX8_pickSpares 69 = .ok (.iload 6, 2) := by decide +kernel
theorem dX8_pickSpares_71 : decode cX8_pickSpares 71 = .ok (.imul, 1) := by decide +kernel
theorem dX8_pickSpares_72 : decode cX8_pickSpares 72 = .ok (.isub, 1) := by decide +kernel
theorem dX8_pickSpares_73 : decode cX8_pickSpares 73 = .ok (.istore 9, 2) := by decide +kernel
theorem dX8_pickSpares_75 : decode cX8_pickSpares 75 = .ok (.aload_n 0, 1) := by decide +kernel
theorem dX8_pickSpares_76 : decode cX8_pickSpares 76 = .ok (.iload 5, 2) := by decide +kernel
theorem dX8_pickSpares_78 : decode cX8_pickSpares 78 = .ok (.iload 8, 2) := by decide +kernel
theorem dX8_pickSpares_80 : decode cX8_pickSpares 80 = .ok (.invokevirtual 84, 3) := by decide +kernel
theorem dX8_pickSpares_83 : decode cX8_pickSpares 83 = .ok (.aload_n 0, 1) := by decide +kernel
theorem dX8_pickSpares_84 : decode cX8_pickSpares 84 = .ok (.getfield 35, 3) := by decide +kernel
theorem dX8_pickSpares_87 : decode cX8_pickSpares 87 = .ok (.iload 9, 2) := by decide +kernel
theorem dX8_pickSpares_89 : decode cX8_pickSpares 89 = .ok (.laload, 1) := by decide +kernel
theorem dX8_pickSpares_90 : decode cX8_pickSpares 90 = .ok (.ladd, 1) := by decide +kernel
theorem dX8_pickSpares_91 : decode cX8_pickSpares 91 = .ok (.lstore 10, 2) := by decide +kernel
theorem dX8_pickSpares_93 : decode cX8_pickSpares 93 = .ok (.iload 8, 2) := by decide +kernel
theorem dX8_pickSpares_95 : decode cX8_pickSpares 95 = .ok (.iload 6, 2) := by decide +kernel
theorem dX8_pickSpares_97 : decode cX8_pickSpares 97 = .ok (.imul, 1) := by decide +kernel
theorem dX8_pickSpares_98 : decode cX8_pickSpares 98 = .ok (.aload_n 0, 1) := by decide +kernel
theorem dX8_pickSpares_99 : decode cX8_pickSpares 99 = .ok (.getfield 38, 3) := by decide +kernel
theorem dX8_pickSpares_102 : decode cX8_pickSpares 102 = .ok (.iload 9, 2) := by decide +kernel
theorem dX8_pickSpares_104 : decode cX8_pickSpares 104 = .ok (.iaload, 1) := by decide +kernel
theorem dX8_pickSpares_105 : decode cX8_pickSpares 105 = .ok (.iadd, 1) := by decide +kernel
theorem dX8_pickSpares_106 : decode cX8_pickSpares 106 = .ok (.istore 12, 2) := by decide +kernel
theorem dX8_pickSpares_108 : decode cX8_pickSpares 108 = .ok (.iload 8, 2) := by decide +kernel
theorem dX8_pickSpares_110 : decode cX8_pickSpares 110 = .ok (.ifCond .eq 41, 3) := by decide +kernel
theorem dX8_pickSpares_113 : decode cX8_pickSpares 113 = .ok (.lload 10, 2) := by decide +kernel
theorem dX8_pickSpares_115 : decode cX8_pickSpares 115 = .ok (.aload_n 0, 1) := by decide +kernel
theorem dX8_pickSpares_116 : decode cX8_pickSpares 116 = .ok (.getfield 35, 3) := by decide +kernel
theorem dX8_pickSpares_119 : decode cX8_pickSpares 119 = .ok (.iload 7, 2) := by decide +kernel
theorem dX8_pickSpares_121 : decode cX8_pickSpares 121 = .ok (.laload, 1) := by decide +kernel
theorem dX8_pickSpares_122 : decode cX8_pickSpares 122 = .ok (.lcmp, 1) := by decide +kernel
theorem dX8_pickSpares_123 : decode cX8_pickSpares 123 = .ok (.ifCond .lt 28, 3) := by decide +kernel
theorem dX8_pickSpares_126 : decode cX8_pickSpares 126 = .ok (.lload 10, 2) := by decide +kernel
theorem dX8_pickSpares_128 : decode cX8_pickSpares 128 = .ok (.aload_n 0, 1) := by decide +kernel
theorem dX8_pickSpares_129 : decode cX8_pickSpares 129 = .ok (.getfield 35, 3) := by decide +kernel
theorem dX8_pickSpares_132 : decode cX8_pickSpares 132 = .ok (.iload 7, 2) := by decide +kernel
theorem dX8_pickSpares_134 : decode cX8_pickSpares 134 = .ok (.laload, 1) := by decide +kernel
theorem dX8_pickSpares_135 : decode cX8_pickSpares 135 = .ok (.lcmp, 1) := by decide +kernel
theorem dX8_pickSpares_136 : decode cX8_pickSpares 136 = .ok (.ifCond .ne 42, 3) := by decide +kernel
theorem dX8_pickSpares_139 : decode cX8_pickSpares 139 = .ok (.iload 12, 2) := by decide +kernel
theorem dX8_pickSpares_141 : decode cX8_pickSpares 141 = .ok (.aload_n 0, 1) := by decide +kernel
theorem dX8_pickSpares_142 : decode cX8_pickSpares 142 = .ok (.getfield 38, 3) := by decide +kernel
theorem dX8_pickSpares_145 : decode cX8_pickSpares 145 = .ok (.iload 7, 2) := by decide +kernel
theorem dX8_pickSpares_147 : decode cX8_pickSpares 147 = .ok (.iaload, 1) := by decide +kernel
theorem dX8_pickSpares_148 : decode cX8_pickSpares 148 = .ok (.if_icmp .ge 30, 3) := by decide +kernel
theorem dX8_pickSpares_151 : decode cX8_pickSpares 151 = .ok (.aload_n 0, 1) := by decide +kernel
theorem dX8_pickSpares_152 : decode cX8_pickSpares 152 = .ok (.getfield 35, 3) := by decide +kernel
theorem dX8_pickSpares_155 : decode cX8_pickSpares 155 = .ok (.iload 7, 2) := by decide +kernel
theorem dX8_pickSpares_157 : decode cX8_pickSpares 157 = .ok (.lload 10, 2) := by decide +kernel
theorem dX8_pickSpares_159 : decode cX8_pickSpares 159 = .ok (.lastore, 1) := by decide +kernel
theorem dX8_pickSpares_160 : decode cX8_pickSpares 160 = .ok (.aload_n 0, 1) := by decide +kernel
theorem dX8_pickSpares_161 : decode cX8_pickSpares 161 = .ok (.getfield 38, 3) := by decide +kernel
theorem dX8_pickSpares_164 : decode cX8_pickSpares 164 = .ok (.iload 7, 2) := by decide +kernel
theorem dX8_pickSpares_166 : decode cX8_pickSpares 166 = .ok (.iload 12, 2) := by decide +kernel
theorem dX8_pickSpares_168 : decode cX8_pickSpares 168 = .ok (.iastore, 1) := by decide +kernel
theorem dX8_pickSpares_169 : decode cX8_pickSpares 169 = .ok (.aload_n 0, 1) := by decide +kernel
theorem dX8_pickSpares_170 : decode cX8_pickSpares 170 = .ok (.getfield 41, 3) := by decide +kernel
theorem dX8_pickSpares_173 : decode cX8_pickSpares 173 = .ok (.iload 7, 2) := by decide +kernel
theorem dX8_pickSpares_175 : decode cX8_pickSpares 175 = .ok (.iload 8, 2) := by decide +kernel
theorem dX8_pickSpares_177 : decode cX8_pickSpares 177 = .ok (.iastore, 1) := by decide +kernel
theorem dX8_pickSpares_178 : decode cX8_pickSpares 178 = .ok (.iinc 8 1, 3) := by decide +kernel
theorem dX8_pickSpares_181 : decode cX8_pickSpares 181 = .ok (.goto (-143), 3) := by decide +kernel
theorem dX8_pickSpares_184 : decode cX8_pickSpares 184 = .ok (.return_, 1) := by decide +kernel
theorem dX8_bestSpares_0 : decode cX8_bestSpares 0 = .ok (.iload_n 2, 1) := by decide +kernel
theorem dX8_bestSpares_1 : decode cX8_bestSpares 1 = .ok (.istore 4, 2) := by decide +kernel
theorem dX8_bestSpares_3 : decode cX8_bestSpares 3 = .ok (.iconst 0, 1) := by decide +kernel
theorem dX8_bestSpares_4 : decode cX8_bestSpares 4 = .ok (.istore 5, 2) := by decide +kernel
theorem dX8_bestSpares_6 : decode cX8_bestSpares 6 = .ok (.iload 5, 2) := by decide +kernel
theorem dX8_bestSpares_8 : decode cX8_bestSpares 8 = .ok (.iload_n 3, 1) := by decide +kernel
theorem dX8_bestSpares_9 : decode cX8_bestSpares 9 = .ok (.if_icmp .ge 39, 3) := by decide +kernel
theorem dX8_bestSpares_12 : decode cX8_bestSpares 12 = .ok (.iload 5, 2) := by decide +kernel
theorem dX8_bestSpares_14 : decode cX8_bestSpares 14 = .ok (.bipush 9, 2) := by decide +kernel
theorem dX8_bestSpares_16 : decode cX8_bestSpares 16 = .ok (.if_icmp .ge 32, 3) := by decide +kernel
theorem dX8_bestSpares_19 : decode cX8_bestSpares 19 = .ok (.iload 4, 2) := by decide +kernel
theorem dX8_bestSpares_21 : decode cX8_bestSpares 21 = .ok (.aload_n 0, 1) := by decide +kernel
theorem dX8_bestSpares_22 : decode cX8_bestSpares 22 = .ok (.iload 5, 2) := by decide +kernel
theorem dX8_bestSpares_24 : decode cX8_bestSpares 24 = .ok (.iload 4, 2) := by decide +kernel
theorem dX8_bestSpares_26 : decode cX8_bestSpares 26 = .ok (.invokevirtual 117, 3) := by decide +kernel
theorem dX8_bestSpares_29 : decode cX8_bestSpares 29 = .ok (.aload_n 1, 1) := by decide +kernel
theorem dX8_bestSpares_30 : decode cX8_bestSpares 30 = .ok (.getfield 99, 3) := by decide +kernel
theorem dX8_bestSpares_33 : decode cX8_bestSpares 33 = .ok (.iload 5, 2) := by decide +kernel
theorem dX8_bestSpares_35 : decode cX8_bestSpares 35 = .ok (.iconst 3, 1) := by decide +kernel
theorem dX8_bestSpares_36 : decode cX8_bestSpares 36 = .ok (.irem, 1) := by decide +kernel
theorem dX8_bestSpares_37 : decode cX8_bestSpares 37 = .ok (.iaload, 1) := by decide +kernel
theorem dX8_bestSpares_38 : decode cX8_bestSpares 38 = .ok (.imul, 1) := by decide +kernel
theorem dX8_bestSpares_39 : decode cX8_bestSpares 39 = .ok (.isub, 1) := by decide +kernel
theorem dX8_bestSpares_40 : decode cX8_bestSpares 40 = .ok (.istore 4, 2) := by decide +kernel
theorem dX8_bestSpares_42 : decode cX8_bestSpares 42 = .ok (.iinc 5 1, 3) := by decide +kernel
theorem dX8_bestSpares_45 : decode cX8_bestSpares 45 = .ok (.goto (-39), 3) := by decide +kernel
theorem dX8_bestSpares_48 : decode cX8_bestSpares 48 = .ok (.aload_n 0, 1) := by decide +kernel
theorem dX8_bestSpares_49 : decode cX8_bestSpares 49 = .ok (.iload_n 3, 1) := by decide +kernel
theorem dX8_bestSpares_50 : decode cX8_bestSpares 50 = .ok (.iload 4, 2) := by decide +kernel
theorem dX8_bestSpares_52 : decode cX8_bestSpares 52 = .ok (.invokevirtual 117, 3) := by decide +kernel
theorem dX8_bestSpares_55 : decode cX8_bestSpares 55 = .ok (.ireturn, 1) := by decide +kernel
theorem dX8_pickOf_0 : decode cX8_pickOf 0 = .ok (.iload_n 1, 1) := by decide +kernel
theorem dX8_pickOf_1 : decode cX8_pickOf 1 = .ok (.bipush 100, 2) := by decide +kernel
theorem dX8_pickOf_3 : decode cX8_pickOf 3 = .ok (.imul, 1) := by decide +kernel
theorem dX8_pickOf_4 : decode cX8_pickOf 4 = .ok (.iload_n 2, 1) := by decide +kernel
theorem dX8_pickOf_5 : decode cX8_pickOf 5 = .ok (.iadd, 1) := by decide +kernel
theorem dX8_pickOf_6 : decode cX8_pickOf 6 = .ok (.istore_n 3, 1) := by decide +kernel
theorem dX8_pickOf_7 : decode cX8_pickOf 7 = .ok (.iload_n 2, 1) := by decide +kernel
theorem dX8_pickOf_8 : decode cX8_pickOf 8 = .ok (.ifCond .lt 31, 3) := by decide +kernel
theorem dX8_pickOf_11 : decode cX8_pickOf 11 = .ok (.iload_n 2, 1) := by decide +kernel
theorem dX8_pickOf_12 : decode cX8_pickOf 12 = .ok (.bipush 100, 2) := by decide +kernel
theorem dX8_pickOf_14 : decode cX8_pickOf 14 = .ok (.if_icmp .ge 25, 3) := by decide +kernel
theorem dX8_pickOf_17 : decode cX8_pickOf 17 = .ok (.iload_n 3, 1) := by decide +kernel
theorem dX8_pickOf_18 : decode cX8_pickOf 18 = .ok (.ifCond .lt 21, 3) := by decide +kernel
theorem dX8_pickOf_21 : decode cX8_pickOf 21 = .ok (.iload_n 3, 1) := by decide +kernel
theorem dX8_pickOf_22 : decode cX8_pickOf 22 = .ok (.aload_n 0, 1) := by decide +kernel
theorem dX8_pickOf_23 : decode cX8_pickOf 23 = .ok (.getfield 41, 3) := by decide +kernel
theorem dX8_pickOf_26 : decode cX8_pickOf 26 = .ok (.arraylength, 1) := by decide +kernel
theorem dX8_pickOf_27 : decode cX8_pickOf 27 = .ok (.if_icmp .ge 12, 3) := by decide +kernel
theorem dX8_pickOf_30 : decode cX8_pickOf 30 = .ok (.aload_n 0, 1) := by decide +kernel
theorem dX8_pickOf_31 : decode cX8_pickOf 31 = .ok (.getfield 41, 3) := by decide +kernel
theorem dX8_pickOf_34 : decode cX8_pickOf 34 = .ok (.iload_n 3, 1) := by decide +kernel
theorem dX8_pickOf_35 : decode cX8_pickOf 35 = .ok (.iaload, 1) := by decide +kernel
theorem dX8_pickOf_36 : decode cX8_pickOf 36 = .ok (.goto 4, 3) := by decide +kernel
theorem dX8_pickOf_39 : decode cX8_pickOf 39 = .ok (.iconst 0, 1) := by decide +kernel
theorem dX8_pickOf_40 : decode cX8_pickOf 40 = .ok (.ireturn, 1) := by decide +kernel
theorem dX9_init_0 : decode cX9_init 0 = .ok (.aload_n 0, 1) := by decide +kernel
theorem dX9_init_1 : decode cX9_init 1 = .ok (.invokespecial 3, 3) := by decide +kernel
theorem dX9_init_4 : decode cX9_init 4 = .ok (.aload_n 0, 1) := by decide +kernel
theorem dX9_init_5 : decode cX9_init 5 = .ok (.sipush 400, 3) := by decide +kernel
theorem dX9_init_8 : decode cX9_init 8 = .ok (.newarray .byte, 2) := by decide +kernel
theorem dX9_init_10 : decode cX9_init 10 = .ok (.putfield 9, 3) := by decide +kernel
theorem dX9_init_13 : decode cX9_init 13 = .ok (.aload_n 0, 1) := by decide +kernel
theorem dX9_init_14 : decode cX9_init 14 = .ok (.iconst 0, 1) := by decide +kernel
theorem dX9_init_15 : decode cX9_init 15 = .ok (.putfield 13, 3) := by decide +kernel
theorem dX9_init_18 : decode cX9_init 18 = .ok (.aload_n 0, 1) := by decide +kernel
theorem dX9_init_19 : decode cX9_init 19 = .ok (.new 17, 3) := by decide +kernel
theorem dX9_init_22 : decode cX9_init 22 = .ok (.dup, 1) := by decide +kernel
theorem dX9_init_23 : decode cX9_init 23 = .ok (.invokespecial 19, 3) := by decide +kernel
theorem dX9_init_26 : decode cX9_init 26 = .ok (.putfield 20, 3) := by decide +kernel
theorem dX9_init_29 : decode cX9_init 29 = .ok (.aload_n 0, 1) := by decide +kernel
theorem dX9_init_30 : decode cX9_init 30 = .ok (.new 17, 3) := by decide +kernel
theorem dX9_init_33 : decode cX9_init 33 = .ok (.dup, 1) := by decide +kernel
theorem dX9_init_34 : decode cX9_init 34 = .ok (.invokespecial 19, 3) := by decide +kernel
theorem dX9_init_37 : decode cX9_init 37 = .ok (.putfield 24, 3) := by decide +kernel
theorem dX9_init_40 : decode cX9_init 40 = .ok (.aload_n 0, 1) := by decide +kernel
theorem dX9_init_41 : decode cX9_init 41 = .ok (.new 27, 3) := by decide +kernel
theorem dX9_init_44 : decode cX9_init 44 = .ok (.dup, 1) := by decide +kernel
theorem dX9_init_45 : decode cX9_init 45 = .ok (.invokespecial 29, 3) := by decide +kernel
theorem dX9_init_48 : decode cX9_init 48 = .ok (.putfield 30, 3) := by decide +kernel
theorem dX9_init_51 : decode cX9_init 51 = .ok (.aload_n 0, 1) := by decide +kernel
theorem dX9_init_52 : decode cX9_init 52 = .ok (.new 34, 3) := by decide +kernel
theorem dX9_init_55 : decode cX9_init 55 = .ok (.dup, 1) := by decide +kernel
theorem dX9_init_56 : decode cX9_init 56 = .ok (.invokespecial 36, 3) := by decide +kernel
theorem dX9_init_59 : decode cX9_init 59 = .ok (.putfield 37, 3) := by decide +kernel
theorem dX9_init_62 : decode cX9_init 62 = .ok (.aload_n 0, 1) := by decide +kernel
theorem dX9_init_63 : decode cX9_init 63 = .ok (.new 41, 3) := by decide +kernel
theorem dX9_init_66 : decode cX9_init 66 = .ok (.dup, 1) := by decide +kernel
theorem dX9_init_67 : decode cX9_init 67 = .ok (.invokespecial 43, 3) := by decide +kernel
theorem dX9_init_70 : decode cX9_init 70 = .ok (.putfield 44, 3) := by decide +kernel
theorem dX9_init_73 : decode cX9_init 73 = .ok (.aload_n 0, 1) := by decide +kernel
theorem dX9_init_74 : decode cX9_init 74 = .ok (.new 48, 3) := by decide +kernel
theorem dX9_init_77 : decode cX9_init 77 = .ok (.dup, 1) := by decide +kernel
theorem dX9_init_78 : decode cX9_init 78 = .ok (.invokespecial 50, 3) := by decide +kernel
theorem dX9_init_81 : decode cX9_init 81 = .ok (.putfield 51, 3) := by decide +kernel
theorem dX9_init_84 : decode cX9_init 84 = .ok (.aload_n 0, 1) := by decide +kernel
theorem dX9_init_85 : decode cX9_init 85 = .ok (.getfield 20, 3) := by decide +kernel
theorem dX9_init_88 : decode cX9_init 88 = .ok (.invokevirtual 55, 3) := by decide +kernel
theorem dX9_init_91 : decode cX9_init 91 = .ok (.return_, 1) := by decide +kernel
theorem dX9_feed_0 : decode cX9_feed 0 = .ok (.aload_n 0, 1) := by decide +kernel
theorem dX9_feed_1 : decode cX9_feed 1 = .ok (.getfield 13, 3) := by decide +kernel
theorem dX9_feed_4 : decode cX9_feed 4 = .ok (.bipush 20, 2) := by decide +kernel
theorem dX9_feed_6 : decode cX9_feed 6 = .ok (.iadd, 1) := by decide +kernel
theorem dX9_feed_7 : decode cX9_feed 7 = .ok (.sipush 400, 3) := by decide +kernel
theorem dX9_feed_10 : decode cX9_feed 10 = .ok (.if_icmp .le 5, 3) := by decide +kernel
theorem dX9_feed_13 : decode cX9_feed 13 = .ok (.iconst (-1), 1) := by decide +kernel
theorem dX9_feed_14 : decode cX9_feed 14 = .ok (.ireturn, 1) := by decide +kernel
theorem dX9_feed_15 : decode cX9_feed 15 = .ok (.aload_n 0, 1) := by decide +kernel
theorem dX9_feed_16 : decode cX9_feed 16 = .ok (.iload_n 1, 1) := by decide +kernel
theorem dX9_feed_17 : decode cX9_feed 17 = .ok (.invokevirtual 58, 3) := by decide +kernel
theorem dX9_feed_20 : decode cX9_feed 20 = .ok (.aload_n 0, 1) := by decide +kernel
theorem dX9_feed_21 : decode cX9_feed 21 = .ok (.iload_n 2, 1) := by decide +kernel
theorem dX9_feed_22 : decode cX9_feed 22 = .ok (.invokevirtual 58, 3) := by decide +kernel
theorem dX9_feed_25 : decode cX9_feed 25 = .ok (.aload_n 0, 1) := by decide +kernel
theorem dX9_feed_26 : decode cX9_feed 26 = .ok (.iload_n 3, 1) := by decide +kernel
theorem dX9_feed_27 : decode cX9_feed 27 = .ok (.invokevirtual 58, 3) := by decide +kernel
theorem dX9_feed_30 : decode cX9_feed 30 = .ok (.aload_n 0, 1) := by decide +kernel
theorem dX9_feed_31 : decode cX9_feed 31 = .ok (.iload 4, 2) := by decide +kernel
theorem dX9_feed_33 : decode cX9_feed 33 = .ok (.invokevirtual 58, 3) := by decide +kernel
theorem dX9_feed_36 : decode cX9_feed 36 = .ok (.aload_n 0, 1) := by decide +kernel
theorem dX9_feed_37 : decode cX9_feed 37 = .ok (.iload 5, 2) := by decide +kernel
theorem dX9_feed_39 : decode cX9_feed 39 = .ok (.invokevirtual 58, 3) := by decide +kernel
theorem dX9_feed_42 : decode cX9_feed 42 = .ok (.aload_n 0, 1) := by decide +kernel
theorem dX9_feed_43 : decode cX9_feed 43 = .ok (.getfield 13, 3) := by decide +kernel
theorem dX9_feed_46 : decode cX9_feed 46 = .ok (.ireturn, 1) := by decide +kernel
theorem dX9_putFour_0 : decode cX9_putFour 0 = .ok (.bipush 24, 2) := by decide +kernel
theorem dX9_putFour_2 : decode cX9_putFour 2 = .ok (.istore_n 2, 1) := by decide +kernel
theorem dX9_putFour_3 : decode cX9_putFour 3 = .ok (.iload_n 2, 1) := by decide +kernel
theorem dX9_putFour_4 : decode cX9_putFour 4 = .ok (.ifCond .lt 42, 3) := by decide +kernel
theorem dX9_putFour_7 : decode cX9_putFour 7 = .ok (.aload_n 0, 1) := by decide +kernel
theorem dX9_putFour_8 : decode cX9_putFour 8 = .ok (.getfield 13, 3) := by decide +kernel
theorem dX9_putFour_11 : decode cX9_putFour 11 = .ok (.sipush 400, 3) := by decide +kernel
theorem dX9_putFour_14 : decode cX9_putFour 14 = .ok (.if_icmp .ge 26, 3) := by decide +kernel
theorem dX9_putFour_17 : decode cX9_putFour 17 = .ok (.aload_n 0, 1) := by decide +kernel
theorem dX9_putFour_18 : decode cX9_putFour 18 = .ok (.getfield 9, 3) := by decide +kernel
theorem dX9_putFour_21 : decode cX9_putFour 21 = .ok (.aload_n 0, 1) := by decide +kernel
theorem dX9_putFour_22 : decode cX9_putFour 22 = .ok (.getfield 13, 3) := by decide +kernel
theorem dX9_putFour_25 : decode cX9_putFour 25 = .ok (.iload_n 1, 1) := by decide +kernel
theorem dX9_putFour_26 : decode cX9_putFour 26 = .ok (.iload_n 2, 1) := by decide +kernel
theorem dX9_putFour_27 : decode cX9_putFour 27 = .ok (.iushr, 1) := by decide +kernel
theorem dX9_putFour_28 : decode cX9_putFour 28 = .ok (.i2b, 1) := by decide +kernel
theorem dX9_putFour_29 : decode cX9_putFour 29 = .ok (.bastore, 1) := by decide +kernel
theorem dX9_putFour_30 : decode cX9_putFour 30 = .ok (.aload_n 0, 1) := by decide +kernel
theorem dX9_putFour_31 : decode cX9_putFour 31 = .ok (.dup, 1) := by decide +kernel
theorem dX9_putFour_32 : decode cX9_putFour 32 = .ok (.getfield 13, 3) := by decide +kernel
theorem dX9_putFour_35 : decode cX9_putFour 35 = .ok (.iconst 1, 1) := by decide +kernel
theorem dX9_putFour_36 : decode cX9_putFour 36 = .ok (.iadd, 1) := by decide +kernel
theorem dX9_putFour_37 : decode cX9_putFour 37 = .ok (.putfield 13, 3) := by decide +kernel
theorem dX9_putFour_40 : decode cX9_putFour 40 = .ok (.iinc 2 (-8), 3) := by decide +kernel
theorem dX9_putFour_43 : decode cX9_putFour 43 = .ok (.goto (-40), 3) := by decide +kernel
theorem dX9_putFour_46 : decode cX9_putFour 46 = .ok (.return_, 1) := by decide +kernel
theorem dX9_back_0 : decode cX9_back 0 = .ok (.iload_n 1, 1) := by decide +kernel
theorem dX9_back_1 : decode cX9_back 1 = .ok (.ifCond .lt 11, 3) := by decide +kernel
theorem dX9_back_4 : decode cX9_back 4 = .ok (.iload_n 1, 1) := by decide +kernel
theorem dX9_back_5 : decode cX9_back 5 = .ok (.aload_n 0, 1) := by decide +kernel
theorem dX9_back_6 : decode cX9_back 6 = .ok (.getfield 13, 3) := by decide +kernel
theorem dX9_back_9 : decode cX9_back 9 = .ok (.if_icmp .le 5, 3) := by decide +kernel
theorem dX9_back_12 : decode cX9_back 12 = .ok (.iconst (-1), 1) := by decide +kernel
theorem dX9_back_13 : decode cX9_back 13 = .ok (.ireturn, 1) := by decide +kernel
theorem dX9_back_14 : decode cX9_back 14 = .ok (.aload_n 0, 1) := by decide +kernel
theorem dX9_back_15 : decode cX9_back 15 = .ok (.dup, 1) := by decide +kernel
theorem dX9_back_16 : decode cX9_back 16 = .ok (.getfield 13, 3) := by decide +kernel
theorem dX9_back_19 : decode cX9_back 19 = .ok (.iload_n 1, 1) := by decide +kernel
theorem dX9_back_20 : decode cX9_back 20 = .ok (.isub, 1) := by decide +kernel
theorem dX9_back_21 : decode cX9_back 21 = .ok (.putfield 13, 3) := by decide +kernel
theorem dX9_back_24 : decode cX9_back 24 = .ok (.aload_n 0, 1) := by decide +kernel
theorem dX9_back_25 : decode cX9_back 25 = .ok (.getfield 13, 3) := by decide +kernel
theorem dX9_back_28 : decode cX9_back 28 = .ok (.ireturn, 1) := by decide +kernel
theorem dX9_text_0 : decode cX9_text 0 = .ok (.aload_n 0, 1) := by decide +kernel
theorem dX9_text_1 : decode cX9_text 1 = .ok (.getfield 37, 3) := by decide +kernel
theorem dX9_text_4 : decode cX9_text 4 = .ok (.aload_n 0, 1) := by decide +kernel
theorem dX9_text_5 : decode cX9_text 5 = .ok (.getfield 9, 3) := by decide +kernel
theorem dX9_text_8 : decode cX9_text 8 = .ok (.aload_n 0, 1) := by decide +kernel
theorem dX9_text_9 : decode cX9_text 9 = .ok (.getfield 13, 3) := by decide +kernel
theorem dX9_text_12 : decode cX9_text 12 = .ok (.invokevirtual 62, 3) := by decide +kernel
theorem dX9_text_15 : decode cX9_text 15 = .ok (.istore_n 1, 1) := by decide +kernel
theorem dX9_text_16 : decode cX9_text 16 = .ok (.aload_n 0, 1) := by decide +kernel
theorem dX9_text_17 : decode cX9_text 17 = .ok (.iconst 0, 1) := by decide +kernel
theorem dX9_text_18 : decode cX9_text 18 = .ok (.putfield 13, 3) := by decide +kernel
theorem dX9_text_21 : decode cX9_text 21 = .ok (.iload_n 1, 1) := by decide +kernel
theorem dX9_text_22 : decode cX9_text 22 = .ok (.iconst (-1), 1) := by decide +kernel
theorem dX9_text_23 : decode cX9_text 23 = .ok (.if_icmp .eq 8, 3) := by decide +kernel
theorem dX9_text_26 : decode cX9_text 26 = .ok (.bipush (-4), 2) := by decide +kernel
theorem dX9_text_28 : decode cX9_text 28 = .ok (.iload_n 1, 1) := by decide +kernel
theorem dX9_text_29 : decode cX9_text 29 = .ok (.isub, 1) := by decide +kernel
theorem dX9_text_30 : decode cX9_text 30 = .ok (.ireturn, 1) := by decide +kernel
theorem dX9_text_31 : decode cX9_text 31 = .ok (.aload_n 0, 1) := by decide +kernel
theorem dX9_text_32 : decode cX9_text 32 = .ok (.getfield 20, 3) := by decide +kernel
theorem dX9_text_35 : decode cX9_text 35 = .ok (.getfield 66, 3) := by decide +kernel
theorem dX9_text_38 : decode cX9_text 38 = .ok (.aload_n 0, 1) := by decide +kernel
theorem dX9_text_39 : decode cX9_text 39 = .ok (.getfield 37, 3) := by decide +kernel
theorem dX9_text_42 : decode cX9_text 42 = .ok (.getfield 70, 3) := by decide +kernel
theorem dX9_text_45 : decode cX9_text 45 = .ok (.invokevirtual 73, 3) := by decide +kernel
theorem dX9_text_48 : decode cX9_text 48 = .ok (.aload_n 0, 1) := by decide +kernel
theorem dX9_text_49 : decode cX9_text 49 = .ok (.getfield 20, 3) := by decide +kernel
theorem dX9_text_52 : decode cX9_text 52 = .ok (.invokevirtual 55, 3) := by decide +kernel
theorem dX9_text_55 : decode cX9_text 55 = .ok (.aload_n 0, 1) := by decide +kernel
theorem dX9_text_56 : decode cX9_text 56 = .ok (.getfield 30, 3) := by decide +kernel
theorem dX9_text_59 : decode cX9_text 59 = .ok (.invokevirtual 79, 3) := by decide +kernel
theorem dX9_text_62 : decode cX9_text 62 = .ok (.aload_n 0, 1) := by decide +kernel
theorem dX9_text_63 : decode cX9_text 63 = .ok (.getfield 51, 3) := by decide +kernel
theorem dX9_text_66 : decode cX9_text 66 = .ok (.invokevirtual 82, 3) := by decide +kernel
theorem dX9_text_69 : decode cX9_text 69 = .ok (.aload_n 0, 1) := by decide +kernel
theorem dX9_text_70 : decode cX9_text 70 = .ok (.getfield 20, 3) := by decide +kernel
theorem dX9_text_73 : decode cX9_text 73 = .ok (.getfield 66, 3) := by decide +kernel
theorem dX9_text_76 : decode cX9_text 76 = .ok (.getfield 83, 3) := by decide +kernel
theorem dX9_text_79 : decode cX9_text 79 = .ok (.aload_n 0, 1) := by decide +kernel
theorem dX9_text_80 : decode cX9_text 80 = .ok (.getfield 20, 3) := by decide +kernel
theorem dX9_text_83 : decode cX9_text 83 = .ok (.getfield 66, 3) := by decide +kernel
theorem dX9_text_86 : decode cX9_text 86 = .ok (.getfield 86, 3) := by decide +kernel
theorem dX9_text_89 : decode cX9_text 89 = .ok (.imul, 1) := by decide +kernel
theorem dX9_text_90 : decode cX9_text 90 = .ok (.ireturn, 1) := by decide +kernel
theorem dX9_breaks_0 : decode cX9_breaks 0 = .ok (.aload_n 0, 1) := by decide +kernel
theorem dX9_breaks_1 : decode cX9_breaks 1 = .ok (.getfield 20, 3) := by decide +kernel
theorem dX9_breaks_4 : decode cX9_breaks 4 = .ok (.getfield 66, 3) := by decide +kernel
theorem dX9_breaks_7 : decode cX9_breaks 7 = .ok (.iload_n 1, 1) := by decide +kernel
theorem dX9_breaks_8 : decode cX9_breaks 8 = .ok (.iload_n 2, 1) := by decide +kernel
theorem dX9_breaks_9 : decode cX9_breaks 9 = .ok (.invokevirtual 89, 3) := by decide +kernel
theorem dX9_breaks_12 : decode cX9_breaks 12 = .ok (.ifCond .eq 18, 3) := by decide +kernel
theorem dX9_breaks_15 : decode cX9_breaks 15 = .ok (.aload_n 0, 1) := by decide +kernel
theorem dX9_breaks_16 : decode cX9_breaks 16 = .ok (.getfield 20, 3) := by decide +kernel
theorem dX9_breaks_19 : decode cX9_breaks 19 = .ok (.iload_n 1, 1) := by decide +kernel
theorem dX9_breaks_20 : decode cX9_breaks 20 = .ok (.iload_n 2, 1) := by decide +kernel
theorem dX9_breaks_21 : decode cX9_breaks 21 = .ok (.invokestatic 93, 3) := by decide +kernel
theorem dX9_breaks_24 : decode cX9_breaks 24 = .ok (.invokevirtual 97, 3) := by decide +kernel
theorem dX9_breaks_27 : decode cX9_breaks 27 = .ok (.ifCond .ne 5, 3) := by decide +kernel
theorem dX9_breaks_30 : decode cX9_breaks 30 = .ok (.iconst (-1), 1) := by decide +kernel
theorem dX9_breaks_31 : decode cX9_breaks 31 = .ok (.ireturn, 1) := by decide +kernel
theorem dX9_breaks_32 : decode cX9_breaks 32 = .ok (.aload_n 0, 1) := by decide +kernel
theorem dX9_breaks_33 : decode cX9_breaks 33 = .ok (.getfield 30, 3) := by decide +kernel
theorem dX9_breaks_36 : decode cX9_breaks 36 = .ok (.aload_n 0, 1) := by decide +kernel
theorem dX9_breaks_37 : decode cX9_breaks 37 = .ok (.getfield 20, 3) := by decide +kernel
theorem dX9_breaks_40 : decode cX9_breaks 40 = .ok (.invokevirtual 101, 3) := by decide +kernel
theorem dX9_breaks_43 : decode cX9_breaks 43 = .ok (.aload_n 0, 1) := by decide +kernel
theorem dX9_breaks_44 : decode cX9_breaks 44 = .ok (.getfield 20, 3) := by decide +kernel
theorem dX9_breaks_47 : decode cX9_breaks 47 = .ok (.iload_n 1, 1) := by decide +kernel
theorem dX9_breaks_48 : decode cX9_breaks 48 = .ok (.iload_n 2, 1) := by decide +kernel
theorem dX9_breaks_49 : decode cX9_breaks 49 = .ok (.invokestatic 93, 3) := by decide +kernel
theorem dX9_breaks_52 : decode cX9_breaks 52 = .ok (.invokevirtual 105, 3) := by decide +kernel
theorem dX9_breaks_55 : decode cX9_breaks 55 = .ok (.ireturn, 1) := by decide +kernel
theorem dX9_pass_0 : decode cX9_pass 0 = .ok (.aload_n 0, 1) := by decide +kernel
theorem dX9_pass_1 : decode cX9_pass 1 = .ok (.getfield 20, 3) := by decide +kernel
theorem dX9_pass_4 : decode cX9_pass 4 = .ok (.iload_n 1, 1) := by decide +kernel
theorem dX9_pass_5 : decode cX9_pass 5 = .ok (.bipush 30, 2) := by decide +kernel
theorem dX9_pass_7 : decode cX9_pass 7 = .ok (.invokevirtual 109, 3) := by decide +kernel
theorem dX9_pass_10 : decode cX9_pass 10 = .ok (.ifCond .ne 5, 3) := by decide +kernel
theorem dX9_pass_13 : decode cX9_pass 13 = .ok (.iconst (-1), 1) := by decide +kernel
theorem dX9_pass_14 : decode cX9_pass 14 = .ok (.ireturn, 1) := by decide +kernel
theorem dX9_pass_15 : decode cX9_pass 15 = .ok (.aload_n 0, 1) := by decide +kernel
theorem dX9_pass_16 : decode cX9_pass 16 = .ok (.getfield 30, 3) := by decide +kernel
theorem dX9_pass_19 : decode cX9_pass 19 = .ok (.aload_n 0, 1) := by decide +kernel
theorem dX9_pass_20 : decode cX9_pass 20 = .ok (.getfield 20, 3) := by decide +kernel
theorem dX9_pass_23 : decode cX9_pass 23 = .ok (.invokevirtual 101, 3) := by decide +kernel
theorem dX9_pass_26 : decode cX9_pass 26 = .ok (.iconst 0, 1) := by decide +kernel
theorem dX9_pass_27 : decode cX9_pass 27 = .ok (.istore_n 2, 1) := by decide +kernel
theorem dX9_pass_28 : decode cX9_pass 28 = .ok (.iload_n 2, 1) := by decide +kernel
theorem dX9_pass_29 : decode cX9_pass 29 = .ok (.iload_n 1, 1) := by decide +kernel
theorem dX9_pass_30 : decode cX9_pass 30 = .ok (.if_icmp .ge 16, 3) := by decide +kernel
theorem dX9_pass_33 : decode cX9_pass 33 = .ok (.aload_n 0, 1) := by decide +kernel
theorem dX9_pass_34 : decode cX9_pass 34 = .ok (.getfield 20, 3) := by decide +kernel
theorem dX9_pass_37 : decode cX9_pass 37 = .ok (.invokevirtual 112, 3) := by decide +kernel
theorem dX9_pass_40 : decode cX9_pass 40 = .ok (.iinc 2 1, 3) := by decide +kernel
theorem dX9_pass_43 : decode cX9_pass 43 = .ok (.goto (-15), 3) := by decide +kernel
theorem dX9_pass_46 : decode cX9_pass 46 = .ok (.aload_n 0, 1) := by decide +kernel
theorem dX9_pass_47 : decode cX9_pass 47 = .ok (.getfield 20, 3) := by decide +kernel
theorem dX9_pass_50 : decode cX9_pass 50 = .ok (.getfield 115, 3) := by decide +kernel
theorem dX9_pass_53 : decode cX9_pass 53 = .ok (.ireturn, 1) := by decide +kernel
theorem dX9_run_0 : decode cX9_run 0 = .ok (.aload_n 0, 1) := by decide +kernel
theorem dX9_run_1 : decode cX9_run 1 = .ok (.getfield 20, 3) := by decide +kernel
theorem dX9_run_4 : decode cX9_run 4 = .ok (.iload_n 1, 1) := by decide +kernel
theorem dX9_run_5 : decode cX9_run 5 = .ok (.bipush 30, 2) := by decide +kernel
theorem dX9_run_7 : decode cX9_run 7 = .ok (.invokevirtual 109, 3) := by decide +kernel
theorem dX9_run_10 : decode cX9_run 10 = .ok (.ifCond .ne 5, 3) := by decide +kernel
theorem dX9_run_13 : decode cX9_run 13 = .ok (.iconst (-1), 1) := by decide +kernel
theorem dX9_run_14 : decode cX9_run 14 = .ok (.ireturn, 1) := by decide +kernel
theorem dX9_run_15 : decode cX9_run 15 = .ok (.aload_n 0, 1) := by decide +kernel
theorem dX9_run_16 : decode cX9_run 16 = .ok (.getfield 30, 3) := by decide +kernel
theorem dX9_run_19 : decode cX9_run 19 = .ok (.aload_n 0, 1) := by decide +kernel
theorem dX9_run_20 : decode cX9_run 20 = .ok (.getfield 20, 3) := by decide +kernel
theorem dX9_run_23 : decode cX9_run 23 = .ok (.invokevirtual 101, 3) := by decide +kernel
theorem dX9_run_26 : decode cX9_run 26 = .ok (.aload_n 0, 1) := by decide +kernel
theorem dX9_run_27 : decode cX9_run 27 = .ok (.getfield 20, 3) := by decide +kernel
theorem dX9_run_30 : decode cX9_run 30 = .ok (.iload_n 1, 1) := by decide +kernel
theorem dX9_run_31 : decode cX9_run 31 = .ok (.iload_n 2, 1) := by decide +kernel
theorem dX9_run_32 : decode cX9_run 32 = .ok (.invokevirtual 118, 3) := by decide +kernel
theorem dX9_run_35 : decode cX9_run 35 = .ok (.ireturn, 1) := by decide +kernel
theorem dX9_buy_0 : decode cX9_buy 0 = .ok (.aload_n 0, 1) := by decide +kernel
theorem dX9_buy_1 : decode cX9_buy 1 = .ok (.getfield 20, 3) := by decide +kernel
theorem dX9_buy_4 : decode cX9_buy 4 = .ok (.getfield 66, 3) := by decide +kernel
theorem dX9_buy_7 : decode cX9_buy 7 = .ok (.iload_n 1, 1) := by decide +kernel
theorem dX9_buy_8 : decode cX9_buy 8 = .ok (.iload_n 2, 1) := by decide +kernel
theorem dX9_buy_9 : decode cX9_buy 9 = .ok (.invokevirtual 89, 3) := by decide +kernel
theorem dX9_buy_12 : decode cX9_buy 12 = .ok (.ifCond .ne 5, 3) := by decide +kernel
theorem dX9_buy_15 : decode cX9_buy 15 = .ok (.iconst (-1), 1) := by decide +kernel
theorem dX9_buy_16 : decode cX9_buy 16 = .ok (.ireturn, 1) := by decide +kernel
theorem dX9_buy_17 : decode cX9_buy 17 = .ok (.iload_n 1, 1) := by decide +kernel
theorem dX9_buy_18 : decode cX9_buy 18 = .ok (.iload_n 2, 1) := by decide +kernel
theorem dX9_buy_19 : decode cX9_buy 19 = .ok (.invokestatic 93, 3) := by decide +kernel
theorem dX9_buy_22 : decode cX9_buy 22 = .ok (.istore_n 3, 1) := by decide +kernel
theorem dX9_buy_23 : decode cX9_buy 23 = .ok (.aload_n 0, 1) := by decide +kernel
theorem dX9_buy_24 : decode cX9_buy 24 = .ok (.getfield 20, 3) := by decide +kernel
theorem dX9_buy_27 : decode cX9_buy 27 = .ok (.getfield 66, 3) := by decide +kernel
theorem dX9_buy_30 : decode cX9_buy 30 = .ok (.getfield 121, 3) := by decide +kernel
theorem dX9_buy_33 : decode cX9_buy 33 = .ok (.iload_n 3, 1) := by decide +kernel
theorem dX9_buy_34 : decode cX9_buy 34 = .ok (.iaload, 1) := by decide +kernel
theorem dX9_buy_35 : decode cX9_buy 35 = .ok (.bipush 9, 2) := by decide +kernel
theorem dX9_buy_37 : decode cX9_buy 37 = .ok (.if_icmp .lt 5, 3) := by decide +kernel
theorem dX9_buy_40 : decode cX9_buy 40 = .ok (.iconst (-1), 1) := by decide +kernel
theorem dX9_buy_41 : decode cX9_buy 41 = .ok (.ireturn, 1) := by decide +kernel
theorem dX9_buy_42 : decode cX9_buy 42 = .ok (.aload_n 0, 1) := by decide +kernel
theorem dX9_buy_43 : decode cX9_buy 43 = .ok (.getfield 30, 3) := by decide +kernel
theorem dX9_buy_46 : decode cX9_buy 46 = .ok (.aload_n 0, 1) := by decide +kernel
theorem dX9_buy_47 : decode cX9_buy 47 = .ok (.getfield 20, 3) := by decide +kernel
theorem dX9_buy_50 : decode cX9_buy 50 = .ok (.invokevirtual 101, 3) := by decide +kernel
theorem dX9_buy_53 : decode cX9_buy 53 = .ok (.aload_n 0, 1) := by decide +kernel
theorem dX9_buy_54 : decode cX9_buy 54 = .ok (.getfield 20, 3) := by decide +kernel
theorem dX9_buy_57 : decode cX9_buy 57 = .ok (.getfield 66, 3) := by decide +kernel
theorem dX9_buy_60 : decode cX9_buy 60 = .ok (.getfield 121, 3) := by decide +kernel
theorem dX9_buy_63 : decode cX9_buy 63 = .ok (.iload_n 3, 1) := by decide +kernel
theorem dX9_buy_64 : decode cX9_buy 64 = .ok (.dup2, 1) := by decide +kernel
theorem dX9_buy_65 : decode cX9_buy 65 = .ok (.iaload, 1) := by decide +kernel
theorem dX9_buy_66 : decode cX9_buy 66 = .ok (.iconst 1, 1) := by decide +kernel
theorem dX9_buy_67 : decode cX9_buy 67 = .ok (.iadd, 1) := by decide +kernel
theorem dX9_buy_68 : decode cX9_buy 68 = .ok (.iastore, 1) := by decide +kernel
theorem dX9_buy_69 : decode cX9_buy 69 = .ok (.aload_n 0, 1) := by decide +kernel
theorem dX9_buy_70 : decode cX9_buy 70 = .ok (.getfield 20, 3) := by decide +kernel
theorem dX9_buy_73 : decode cX9_buy 73 = .ok (.iload_n 3, 1) := by decide +kernel
theorem dX9_buy_74 : decode cX9_buy 74 = .ok (.invokevirtual 125, 3) := by decide +kernel
theorem dX9_buy_77 : decode cX9_buy 77 = .ok (.aload_n 0, 1) := by decide +kernel
theorem dX9_buy_78 : decode cX9_buy 78 = .ok (.getfield 20, 3) := by decide +kernel
theorem dX9_buy_81 : decode cX9_buy 81 = .ok (.getfield 66, 3) := by decide +kernel
theorem dX9_buy_84 : decode cX9_buy 84 = .ok (.getfield 121, 3) := by decide +kernel
theorem dX9_buy_87 : decode cX9_buy 87 = .ok (.iload_n 3, 1) := by decide +kernel
theorem dX9_buy_88 : decode cX9_buy 88 = .ok (.iaload, 1) := by decide +kernel
theorem dX9_buy_89 : decode cX9_buy 89 = .ok (.ireturn, 1) := by decide +kernel
theorem dX9_sell_0 : decode cX9_sell 0 = .ok (.aload_n 0, 1) := by decide +kernel
theorem dX9_sell_1 : decode cX9_sell 1 = .ok (.getfield 20, 3) := by decide +kernel
theorem dX9_sell_4 : decode cX9_sell 4 = .ok (.getfield 66, 3) := by decide +kernel
theorem dX9_sell_7 : decode cX9_sell 7 = .ok (.iload_n 1, 1) := by decide +kernel
theorem dX9_sell_8 : decode cX9_sell 8 = .ok (.iload_n 2, 1) := by decide +kernel
theorem dX9_sell_9 : decode cX9_sell 9 = .ok (.invokevirtual 89, 3) := by decide +kernel
theorem dX9_sell_12 : decode cX9_sell 12 = .ok (.ifCond .ne 5, 3) := by decide +kernel
theorem dX9_sell_15 : decode cX9_sell 15 = .ok (.iconst (-1), 1) := by decide +kernel
theorem dX9_sell_16 : decode cX9_sell 16 = .ok (.ireturn, 1) := by decide +kernel
theorem dX9_sell_17 : decode cX9_sell 17 = .ok (.iload_n 1, 1) := by decide +kernel
theorem dX9_sell_18 : decode cX9_sell 18 = .ok (.iload_n 2, 1) := by decide +kernel
theorem dX9_sell_19 : decode cX9_sell 19 = .ok (.invokestatic 93, 3) := by decide +kernel
theorem dX9_sell_22 : decode cX9_sell 22 = .ok (.istore_n 3, 1) := by decide +kernel
theorem dX9_sell_23 : decode cX9_sell 23 = .ok (.aload_n 0, 1) := by decide +kernel
theorem dX9_sell_24 : decode cX9_sell 24 = .ok (.getfield 20, 3) := by decide +kernel
theorem dX9_sell_27 : decode cX9_sell 27 = .ok (.getfield 66, 3) := by decide +kernel
theorem dX9_sell_30 : decode cX9_sell 30 = .ok (.getfield 121, 3) := by decide +kernel
theorem dX9_sell_33 : decode cX9_sell 33 = .ok (.iload_n 3, 1) := by decide +kernel
theorem dX9_sell_34 : decode cX9_sell 34 = .ok (.iaload, 1) := by decide +kernel
theorem dX9_sell_35 : decode cX9_sell 35 = .ok (.ifCond .le 15, 3) := by decide +kernel
theorem dX9_sell_38 : decode cX9_sell 38 = .ok (.aload_n 0, 1) := by decide +kernel
theorem dX9_sell_39 : decode cX9_sell 39 = .ok (.getfield 20, 3) := by decide +kernel
theorem dX9_sell_42 : decode cX9_sell 42 = .ok (.getfield 128, 3) := by decide +kernel
theorem dX9_sell_45 : decode cX9_sell 45 = .ok (.iload_n 3, 1) := by decide +kernel
theorem dX9_sell_46 : decode cX9_sell 46 = .ok (.iaload, 1) := by decide +kernel
theorem dX9_sell_47 : decode cX9_sell 47 = .ok (.ifCond .gt 5, 3) := by decide +kernel
theorem dX9_sell_50 : decode cX9_sell 50 = .ok (.iconst (-1), 1) := by decide +kernel
theorem dX9_sell_51 : decode cX9_sell 51 = .ok (.ireturn, 1) := by decide +kernel
theorem dX9_sell_52 : decode cX9_sell 52 = .ok (.aload_n 0, 1) := by decide +kernel
theorem dX9_sell_53 : decode cX9_sell 53 = .ok (.getfield 30, 3) := by decide +kernel
theorem dX9_sell_56 : decode cX9_sell 56 = .ok (.aload_n 0, 1) := by decide +kernel
theorem dX9_sell_57 : decode cX9_sell 57 = .ok (.getfield 20, 3) := by decide +kernel
theorem dX9_sell_60 : decode cX9_sell 60 = .ok (.invokevirtual 101, 3) := by decide +kernel
theorem dX9_sell_63 : decode cX9_sell 63 = .ok (.aload_n 0, 1) := by decide +kernel
theorem dX9_sell_64 : decode cX9_sell 64 = .ok (.getfield 20, 3) := by decide +kernel
theorem dX9_sell_67 : decode cX9_sell 67 = .ok (.getfield 66, 3) := by decide +kernel
theorem dX9_sell_70 : decode cX9_sell 70 = .ok (.getfield 121, 3) := by decide +kernel
theorem dX9_sell_73 : decode cX9_sell 73 = .ok (.iload_n 3, 1) := by decide +kernel
theorem dX9_sell_74 : decode cX9_sell 74 = .ok (.dup2, 1) := by decide +kernel
theorem dX9_sell_75 : decode cX9_sell 75 = .ok (.iaload, 1) := by decide +kernel
theorem dX9_sell_76 : decode cX9_sell 76 = .ok (.iconst 1, 1) := by decide +kernel
theorem dX9_sell_77 : decode cX9_sell 77 = .ok (.isub, 1) := by decide +kernel
theorem dX9_sell_78 : decode cX9_sell 78 = .ok (.iastore, 1) := by decide +kernel
theorem dX9_sell_79 : decode cX9_sell 79 = .ok (.aload_n 0, 1) := by decide +kernel
theorem dX9_sell_80 : decode cX9_sell 80 = .ok (.getfield 20, 3) := by decide +kernel
theorem dX9_sell_83 : decode cX9_sell 83 = .ok (.getfield 128, 3) := by decide +kernel
theorem dX9_sell_86 : decode cX9_sell 86 = .ok (.iload_n 3, 1) := by decide +kernel
theorem dX9_sell_87 : decode cX9_sell 87 = .ok (.dup2, 1) := by decide +kernel
theorem dX9_sell_88 : decode cX9_sell 88 = .ok (.iaload, 1) := by decide +kernel
theorem dX9_sell_89 : decode cX9_sell 89 = .ok (.iconst 1, 1) := by decide +kernel
theorem dX9_sell_90 : decode cX9_sell 90 = .ok (.isub, 1) := by decide +kernel
theorem dX9_sell_91 : decode cX9_sell 91 = .ok (.iastore, 1) := by decide +kernel
theorem dX9_sell_92 : decode cX9_sell 92 = .ok (.aload_n 0, 1) := by decide +kernel
theorem dX9_sell_93 : decode cX9_sell 93 = .ok (.getfield 20, 3) := by decide +kernel
theorem dX9_sell_96 : decode cX9_sell 96 = .ok (.getfield 66, 3) := by decide +kernel
theorem dX9_sell_99 : decode cX9_sell 99 = .ok (.getfield 121, 3) := by decide +kernel
theorem dX9_sell_102 : decode cX9_sell 102 = .ok (.iload_n 3, 1) := by decide +kernel
theorem dX9_sell_103 : decode cX9_sell 103 = .ok (.iaload, 1) := by decide +kernel
theorem dX9_sell_104 : decode cX9_sell 104 = .ok (.ireturn, 1) := by decide +kernel
theorem dX9_supply_0 : decode cX9_supply 0 = .ok (.aload_n 0, 1) := by decide +kernel
theorem dX9_supply_1 : decode cX9_supply 1 = .ok (.getfield 20, 3) := by decide +kernel
theorem dX9_supply_4 : decode cX9_supply 4 = .ok (.getfield 66, 3) := by decide +kernel
theorem dX9_supply_7 : decode cX9_supply 7 = .ok (.iload_n 1, 1) := by decide +kernel
theorem dX9_supply_8 : decode cX9_supply 8 = .ok (.invokevirtual 131, 3) := by decide +kernel
theorem dX9_supply_11 : decode cX9_supply 11 = .ok (.ifCond .eq 20, 3) := by decide +kernel
theorem dX9_supply_14 : decode cX9_supply 14 = .ok (.aload_n 0, 1) := by decide +kernel
theorem dX9_supply_15 : decode cX9_supply 15 = .ok (.getfield 20, 3) := by decide +kernel
theorem dX9_supply_18 : decode cX9_supply 18 = .ok (.getfield 66, 3) := by decide +kernel
theorem dX9_supply_21 : decode cX9_supply 21 = .ok (.getfield 134, 3) := by decide +kernel
theorem dX9_supply_24 : decode cX9_supply 24 = .ok (.iload_n 1, 1) := by decide +kernel
theorem dX9_supply_25 : decode cX9_supply 25 = .ok (.iaload, 1) := by decide +kernel
theorem dX9_supply_26 : decode cX9_supply 26 = .ok (.bipush 9, 2) := by decide +kernel
theorem dX9_supply_28 : decode cX9_supply 28 = .ok (.if_icmp .lt 5, 3) := by decide +kernel
theorem dX9_supply_31 : decode cX9_supply 31 = .ok (.iconst (-1), 1) := by decide +kernel
theorem dX9_supply_32 : decode cX9_supply 32 = .ok (.ireturn, 1) := by decide +kernel
theorem dX9_supply_33 : decode cX9_supply 33 = .ok (.aload_n 0, 1) := by decide +kernel
theorem dX9_supply_34 : decode cX9_supply 34 = .ok (.getfield 30, 3) := by decide +kernel
theorem dX9_supply_37 : decode cX9_supply 37 = .ok (.aload_n 0, 1) := by decide +kernel
theorem dX9_supply_38 : decode cX9_supply 38 = .ok (.getfield 20, 3) := by decide +kernel
theorem dX9_supply_41 : decode cX9_supply 41 = .ok (.invokevirtual 101, 3) := by decide +kernel
theorem dX9_supply_44 : decode cX9_supply 44 = .ok (.aload_n 0, 1) := by decide +kernel
theorem dX9_supply_45 : decode cX9_supply 45 = .ok (.getfield 20, 3) := by decide +kernel
theorem dX9_supply_48 : decode cX9_supply 48 = .ok (.getfield 66, 3) := by decide +kernel
theorem dX9_supply_51 : decode cX9_supply 51 = .ok (.getfield 134, 3) := by decide +kernel
theorem dX9_supply_54 : decode cX9_supply 54 = .ok (.iload_n 1, 1) := by decide +kernel
theorem dX9_supply_55 : decode cX9_supply 55 = .ok (.dup2, 1) := by decide +kernel
theorem dX9_supply_56 : decode cX9_supply 56 = .ok (.iaload, 1) := by decide +kernel
theorem dX9_supply_57 : decode cX9_supply 57 = .ok (.iconst 1, 1) := by decide +kernel
theorem dX9_supply_58 : decode cX9_supply 58 = .ok (.iadd, 1) := by decide +kernel
theorem dX9_supply_59 : decode cX9_supply 59 = .ok (.iastore, 1) := by decide +kernel
theorem dX9_supply_60 : decode cX9_supply 60 = .ok (.aload_n 0, 1) := by decide +kernel
theorem dX9_supply_61 : decode cX9_supply 61 = .ok (.getfield 20, 3) := by decide +kernel
theorem dX9_supply_64 : decode cX9_supply 64 = .ok (.getfield 137, 3) := by decide +kernel
theorem dX9_supply_67 : decode cX9_supply 67 = .ok (.iload_n 1, 1) := by decide +kernel
theorem dX9_supply_68 : decode cX9_supply 68 = .ok (.dup2, 1) := by decide +kernel
theorem dX9_supply_69 : decode cX9_supply 69 = .ok (.iaload, 1) := by decide +kernel
theorem dX9_supply_70 : decode cX9_supply 70 = .ok (.iconst 1, 1) := by decide +kernel
theorem dX9_supply_71 : decode cX9_supply 71 = .ok (.iadd, 1) := by decide +kernel
theorem dX9_supply_72 : decode cX9_supply 72 = .ok (.iastore, 1) := by decide +kernel
theorem dX9_supply_73 : decode cX9_supply 73 = .ok (.aload_n 0, 1) := by decide +kernel
theorem dX9_supply_74 : decode cX9_supply 74 = .ok (.getfield 20, 3) := by decide +kernel
theorem dX9_supply_77 : decode cX9_supply 77 = .ok (.iload_n 1, 1) := by decide +kernel
theorem dX9_supply_78 : decode cX9_supply 78 = .ok (.invokevirtual 140, 3) := by decide +kernel
theorem dX9_supply_81 : decode cX9_supply 81 = .ok (.aload_n 0, 1) := by decide +kernel
theorem dX9_supply_82 : decode cX9_supply 82 = .ok (.getfield 20, 3) := by decide +kernel
theorem dX9_supply_85 : decode cX9_supply 85 = .ok (.getfield 66, 3) := by decide +kernel
theorem dX9_supply_88 : decode cX9_supply 88 = .ok (.getfield 134, 3) := by decide +kernel
theorem dX9_supply_91 : decode cX9_supply 91 = .ok (.iload_n 1, 1) := by decide +kernel
theorem dX9_supply_92 : decode cX9_supply 92 = .ok (.iaload, 1) := by decide +kernel
theorem dX9_supply_93 : decode cX9_supply 93 = .ok (.ireturn, 1) := by decide +kernel
theorem dX9_set_0 : decode cX9_set 0 = .ok (.aload_n 0, 1) := by decide +kernel
theorem dX9_set_1 : decode cX9_set 1 = .ok (.getfield 20, 3) := by decide +kernel
theorem dX9_set_4 : decode cX9_set 4 = .ok (.getfield 66, 3) := by decide +kernel
theorem dX9_set_7 : decode cX9_set 7 = .ok (.iload_n 1, 1) := by decide +kernel
theorem dX9_set_8 : decode cX9_set 8 = .ok (.invokevirtual 131, 3) := by decide +kernel
theorem dX9_set_11 : decode cX9_set 11 = .ok (.ifCond .eq 20, 3) := by decide +kernel
theorem dX9_set_14 : decode cX9_set 14 = .ok (.iload_n 2, 1) := by decide +kernel
theorem dX9_set_15 : decode cX9_set 15 = .ok (.ifCond .lt 16, 3) := by decide +kernel
theorem dX9_set_18 : decode cX9_set 18 = .ok (.iload_n 2, 1) := by decide +kernel
theorem dX9_set_19 : decode cX9_set 19 = .ok (.iconst 2, 1) := by decide +kernel
theorem dX9_set_20 : decode cX9_set 20 = .ok (.if_icmp .gt 11, 3) := by decide +kernel
theorem dX9_set_23 : decode cX9_set 23 = .ok (.iload_n 2, 1) := by decide +kernel
theorem dX9_set_24 : decode cX9_set 24 = .ok (.iload_n 3, 1) := by decide +kernel
theorem dX9_set_25 : decode cX9_set 25 = .ok (.invokestatic 143, 3) := by decide +kernel
theorem dX9_set_28 : decode cX9_set 28 = .ok (.ifCond .ne 5, 3) := by decide +kernel
theorem dX9_set_31 : decode cX9_set 31 = .ok (.iconst (-1), 1) := by decide +kernel
theorem dX9_set_32 : decode cX9_set 32 = .ok (.ireturn, 1) := by decide +kernel
theorem dX9_set_33 : decode cX9_set 33 = .ok (.aload_n 0, 1) := by decide +kernel
theorem dX9_set_34 : decode cX9_set 34 = .ok (.getfield 20, 3) := by decide +kernel
theorem dX9_set_37 : decode cX9_set 37 = .ok (.getfield 66, 3) := by decide +kernel
theorem dX9_set_40 : decode cX9_set 40 = .ok (.iload_n 1, 1) := by decide +kernel
theorem dX9_set_41 : decode cX9_set 41 = .ok (.iload_n 2, 1) := by decide +kernel
theorem dX9_set_42 : decode cX9_set 42 = .ok (.invokevirtual 148, 3) := by decide +kernel
theorem dX9_set_45 : decode cX9_set 45 = .ok (.istore 4, 2) := by decide +kernel
theorem dX9_set_47 : decode cX9_set 47 = .ok (.iload 4, 2) := by decide +kernel
theorem dX9_set_49 : decode cX9_set 49 = .ok (.iload_n 3, 1) := by decide +kernel
theorem dX9_set_50 : decode cX9_set 50 = .ok (.if_icmp .ne 5, 3) := by decide +kernel
theorem dX9_set_53 : decode cX9_set 53 = .ok (.iconst (-1), 1) := by decide +kernel
theorem dX9_set_54 : decode cX9_set 54 = .ok (.ireturn, 1) := by decide +kernel
theorem dX9_set_55 : decode cX9_set 55 = .ok (.aload_n 0, 1) := by decide +kernel
theorem dX9_set_56 : decode cX9_set 56 = .ok (.getfield 30, 3) := by decide +kernel
theorem dX9_set_59 : decode cX9_set 59 = .ok (.aload_n 0, 1) := by decide +kernel
theorem dX9_set_60 : decode cX9_set 60 = .ok (.getfield 20, 3) := by decide +kernel
theorem dX9_set_63 : decode cX9_set 63 = .ok (.invokevirtual 101, 3) := by decide +kernel
theorem dX9_set_66 : decode cX9_set 66 = .ok (.aload_n 0, 1) := by decide +kernel
theorem dX9_set_67 : decode cX9_set 67 = .ok (.getfield 51, 3) := by decide +kernel
theorem dX9_set_70 : decode cX9_set 70 = .ok (.invokevirtual 82, 3) := by decide +kernel
theorem dX9_set_73 : decode cX9_set 73 = .ok (.aload_n 0, 1) := by decide +kernel
theorem dX9_set_74 : decode cX9_set 74 = .ok (.getfield 20, 3) := by decide +kernel
theorem dX9_set_77 : decode cX9_set 77 = .ok (.getfield 66, 3) := by decide +kernel
theorem dX9_set_80 : decode cX9_set 80 = .ok (.iload_n 1, 1) := by decide +kernel
theorem dX9_set_81 : decode cX9_set 81 = .ok (.iload_n 2, 1) := by decide +kernel
theorem dX9_set_82 : decode cX9_set 82 = .ok (.iload_n 3, 1) := by decide +kernel
theorem dX9_set_83 : decode cX9_set 83 = .ok (.invokevirtual 151, 3) := by decide +kernel
theorem dX9_set_86 : decode cX9_set 86 = .ok (.iload 4, 2) := by decide +kernel
theorem dX9_set_88 : decode cX9_set 88 = .ok (.ireturn, 1) := by decide +kernel
theorem dX9_odds_0 : decode cX9_odds 0 = .ok (.aload_n 0, 1) := by decide +kernel
theorem dX9_odds_1 : decode cX9_odds 1 = .ok (.getfield 20, 3) := by decide +kernel
theorem dX9_odds_4 : decode cX9_odds 4 = .ok (.getfield 66, 3) := by decide +kernel
theorem dX9_odds_7 : decode cX9_odds 7 = .ok (.iload_n 1, 1) := by decide +kernel
theorem dX9_odds_8 : decode cX9_odds 8 = .ok (.iload_n 2, 1) := by decide +kernel
theorem dX9_odds_9 : decode cX9_odds 9 = .ok (.invokevirtual 89, 3) := by decide +kernel
theorem dX9_odds_12 : decode cX9_odds 12 = .ok (.ifCond .eq 13, 3) := by decide +kernel
theorem dX9_odds_15 : decode cX9_odds 15 = .ok (.iload_n 3, 1) := by decide +kernel
theorem dX9_odds_16 : decode cX9_odds 16 = .ok (.ifCond .lt 9, 3) := by decide +kernel
theorem dX9_odds_19 : decode cX9_odds 19 = .ok (.iload_n 3, 1) := by decide +kernel
theorem dX9_odds_20 : decode cX9_odds 20 = .ok (.bipush 12, 2) := by decide +kernel
theorem dX9_odds_22 : decode cX9_odds 22 = .ok (.if_icmp .le 5, 3) := by decide +kernel
theorem dX9_odds_25 : decode cX9_odds 25 = .ok (.iconst (-1), 1) := by decide +kernel
theorem dX9_odds_26 : decode cX9_odds 26 = .ok (.ireturn, 1) := by decide +kernel
theorem dX9_odds_27 : decode cX9_odds 27 = .ok (.iload_n 1, 1) := by decide +kernel
theorem dX9_odds_28 : decode cX9_odds 28 = .ok (.iload_n 2, 1) := by decide +kernel
theorem dX9_odds_29 : decode cX9_odds 29 = .ok (.invokestatic 93, 3) := by decide +kernel
theorem dX9_odds_32 : decode cX9_odds 32 = .ok (.istore 4, 2) := by decide +kernel
theorem dX9_odds_34 : decode cX9_odds 34 = .ok (.aload_n 0, 1) := by decide +kernel
theorem dX9_odds_35 : decode cX9_odds 35 = .ok (.getfield 20, 3) := by decide +kernel
theorem dX9_odds_38 : decode cX9_odds 38 = .ok (.getfield 66, 3) := by decide +kernel
theorem dX9_odds_41 : decode cX9_odds 41 = .ok (.getfield 155, 3) := by decide +kernel
theorem dX9_odds_44 : decode cX9_odds 44 = .ok (.iload 4, 2) := by decide +kernel
theorem dX9_odds_46 : decode cX9_odds 46 = .ok (.iaload, 1) := by decide +kernel
theorem dX9_odds_47 : decode cX9_odds 47 = .ok (.istore 5, 2) := by decide +kernel
theorem dX9_odds_49 : decode cX9_odds 49 = .ok (.iload 5, 2) := by decide +kernel
theorem dX9_odds_51 : decode cX9_odds 51 = .ok (.iload_n 3, 1) := by decide +kernel
theorem dX9_odds_52 : decode cX9_odds 52 = .ok (.if_icmp .ne 5, 3) := by decide +kernel
theorem dX9_odds_55 : decode cX9_odds 55 = .ok (.iconst (-1), 1) := by decide +kernel
theorem dX9_odds_56 : decode cX9_odds 56 = .ok (.ireturn, 1) := by decide +kernel
theorem dX9_odds_57 : decode cX9_odds 57 = .ok (.aload_n 0, 1) := by decide +kernel
theorem dX9_odds_58 : decode cX9_odds 58 = .ok (.getfield 30, 3) := by decide +kernel
theorem dX9_odds_61 : decode cX9_odds 61 = .ok (.aload_n 0, 1) := by decide +kernel
theorem dX9_odds_62 : decode cX9_odds 62 = .ok (.getfield 20, 3) := by decide +kernel
theorem dX9_odds_65 : decode cX9_odds 65 = .ok (.invokevirtual 101, 3) := by decide +kernel
theorem dX9_odds_68 : decode cX9_odds 68 = .ok (.aload_n 0, 1) := by decide +kernel
theorem dX9_odds_69 : decode cX9_odds 69 = .ok (.getfield 51, 3) := by decide +kernel
theorem dX9_odds_72 : decode cX9_odds 72 = .ok (.invokevirtual 82, 3) := by decide +kernel
theorem dX9_odds_75 : decode cX9_odds 75 = .ok (.aload_n 0, 1) := by decide +kernel
theorem dX9_odds_76 : decode cX9_odds 76 = .ok (.getfield 20, 3) := by decide +kernel
theorem dX9_odds_79 : decode cX9_odds 79 = .ok (.getfield 66, 3) := by decide +kernel
theorem dX9_odds_82 : decode cX9_odds 82 = .ok (.getfield 155, 3) := by decide +kernel
theorem dX9_odds_85 : decode cX9_odds 85 = .ok (.iload 4, 2) := by decide +kernel
theorem dX9_odds_87 : decode cX9_odds 87 = .ok (.iload_n 3, 1) := by decide +kernel
theorem dX9_odds_88 : decode cX9_odds 88 = .ok (.iastore, 1) := by decide +kernel
theorem dX9_odds_89 : decode cX9_odds 89 = .ok (.iload 5, 2) := by decide +kernel
theorem dX9_odds_91 : decode cX9_odds 91 = .ok (.ireturn, 1) := by decide +kernel
theorem dX9_benches_0 : decode cX9_benches 0 = .ok (.aload_n 0, 1) := by decide +kernel
theorem dX9_benches_1 : decode cX9_benches 1 = .ok (.getfield 20, 3) := by decide +kernel
theorem dX9_benches_4 : decode cX9_benches 4 = .ok (.getfield 66, 3) := by decide +kernel
theorem dX9_benches_7 : decode cX9_benches 7 = .ok (.getfield 158, 3) := by decide +kernel
theorem dX9_benches_10 : decode cX9_benches 10 = .ok (.istore_n 2, 1) := by decide +kernel
theorem dX9_benches_11 : decode cX9_benches 11 = .ok (.iload_n 1, 1) := by decide +kernel
theorem dX9_benches_12 : decode cX9_benches 12 = .ok (.iconst 1, 1) := by decide +kernel
theorem dX9_benches_13 : decode cX9_benches 13 = .ok (.if_icmp .lt 13, 3) := by decide +kernel
theorem dX9_benches_16 : decode cX9_benches 16 = .ok (.iload_n 1, 1) := by decide +kernel
theorem dX9_benches_17 : decode cX9_benches 17 = .ok (.iconst 3, 1) := by decide +kernel
theorem dX9_benches_18 : decode cX9_benches 18 = .ok (.if_icmp .gt 8, 3) := by decide +kernel
theorem dX9_benches_21 : decode cX9_benches 21 = .ok (.iload_n 1, 1) := by decide +kernel
theorem dX9_benches_22 : decode cX9_benches 22 = .ok (.iload_n 2, 1) := by decide +kernel
theorem dX9_benches_23 : decode cX9_benches 23 = .ok (.if_icmp .ne 5, 3) := by decide +kernel
theorem dX9_benches_26 : decode cX9_benches 26 = .ok (.iconst (-1), 1) := by decide +kernel
theorem dX9_benches_27 : decode cX9_benches 27 = .ok (.ireturn, 1) := by decide +kernel
theorem dX9_benches_28 : decode cX9_benches 28 = .ok (.aload_n 0, 1) := by decide +kernel
theorem dX9_benches_29 : decode cX9_benches 29 = .ok (.getfield 30, 3) := by decide +kernel
theorem dX9_benches_32 : decode cX9_benches 32 = .ok (.aload_n 0, 1) := by decide +kernel
theorem dX9_benches_33 : decode cX9_benches 33 = .ok (.getfield 20, 3) := by decide +kernel
theorem dX9_benches_36 : decode cX9_benches 36 = .ok (.invokevirtual 101, 3) := by decide +kernel
theorem dX9_benches_39 : decode cX9_benches 39 = .ok (.aload_n 0, 1) := by decide +kernel
theorem dX9_benches_40 : decode cX9_benches 40 = .ok (.getfield 20, 3) := by decide +kernel
theorem dX9_benches_43 : decode cX9_benches 43 = .ok (.iload_n 1, 1) := by decide +kernel
theorem dX9_benches_44 : decode cX9_benches 44 = .ok (.invokevirtual 161, 3) := by decide +kernel
theorem dX9_benches_47 : decode cX9_benches 47 = .ok (.iload_n 2, 1) := by decide +kernel
theorem dX9_benches_48 : decode cX9_benches 48 = .ok (.ireturn, 1) := by decide +kernel
theorem dX9_keep_0 : decode cX9_keep 0 = .ok (.aload_n 0, 1) := by decide +kernel
theorem dX9_keep_1 : decode cX9_keep 1 = .ok (.getfield 20, 3) := by decide +kernel
theorem dX9_keep_4 : decode cX9_keep 4 = .ok (.getfield 66, 3) := by decide +kernel
theorem dX9_keep_7 : decode cX9_keep 7 = .ok (.getfield 164, 3) := by decide +kernel
theorem dX9_keep_10 : decode cX9_keep 10 = .ok (.istore_n 2, 1) := by decide +kernel
theorem dX9_keep_11 : decode cX9_keep 11 = .ok (.iload_n 1, 1) := by decide +kernel
theorem dX9_keep_12 : decode cX9_keep 12 = .ok (.ifCond .lt 13, 3) := by decide +kernel
theorem dX9_keep_15 : decode cX9_keep 15 = .ok (.iload_n 1, 1) := by decide +kernel
theorem dX9_keep_16 : decode cX9_keep 16 = .ok (.iconst 4, 1) := by decide +kernel
theorem dX9_keep_17 : decode cX9_keep 17 = .ok (.if_icmp .gt 8, 3) := by decide +kernel
theorem dX9_keep_20 : decode cX9_keep 20 = .ok (.iload_n 1, 1) := by decide +kernel
theorem dX9_keep_21 : decode cX9_keep 21 = .ok (.iload_n 2, 1) := by decide +kernel
theorem dX9_keep_22 : decode cX9_keep 22 = .ok (.if_icmp .ne 5, 3) := by decide +kernel
theorem dX9_keep_25 : decode cX9_keep 25 = .ok (.iconst (-1), 1) := by decide +kernel
theorem dX9_keep_26 : decode cX9_keep 26 = .ok (.ireturn, 1) := by decide +kernel
theorem dX9_keep_27 : decode cX9_keep 27 = .ok (.aload_n 0, 1) := by decide +kernel
theorem dX9_keep_28 : decode cX9_keep 28 = .ok (.getfield 30, 3) := by decide +kernel
theorem dX9_keep_31 : decode cX9_keep 31 = .ok (.aload_n 0, 1) := by decide +kernel
theorem dX9_keep_32 : decode cX9_keep 32 = .ok (.getfield 20, 3) := by decide +kernel
theorem dX9_keep_35 : decode cX9_keep 35 = .ok (.invokevirtual 101, 3) := by decide +kernel
theorem dX9_keep_38 : decode cX9_keep 38 = .ok (.aload_n 0, 1) := by decide +kernel
theorem dX9_keep_39 : decode cX9_keep 39 = .ok (.getfield 20, 3) := by decide +kernel
theorem dX9_keep_42 : decode cX9_keep 42 = .ok (.getfield 66, 3) := by decide +kernel
theorem dX9_keep_45 : decode cX9_keep 45 = .ok (.iload_n 1, 1) := by decide +kernel
theorem dX9_keep_46 : decode cX9_keep 46 = .ok (.putfield 164, 3) := by decide +kernel
theorem dX9_keep_49 : decode cX9_keep 49 = .ok (.iload_n 2, 1) := by decide +kernel
theorem dX9_keep_50 : decode cX9_keep 50 = .ok (.ireturn, 1) := by decide +kernel
theorem dX9_rule_0 : decode cX9_rule 0 = .ok (.aload_n 0, 1) := by decide +kernel
theorem dX9_rule_1 : decode cX9_rule 1 = .ok (.getfield 20, 3) := by decide +kernel
theorem dX9_rule_4 : decode cX9_rule 4 = .ok (.getfield 66, 3) := by decide +kernel
theorem dX9_rule_7 : decode cX9_rule 7 = .ok (.getfield 167, 3) := by decide +kernel
theorem dX9_rule_10 : decode cX9_rule 10 = .ok (.istore_n 1, 1) := by decide +kernel
theorem dX9_rule_11 : decode cX9_rule 11 = .ok (.aload_n 0, 1) := by decide +kernel
theorem dX9_rule_12 : decode cX9_rule 12 = .ok (.getfield 30, 3) := by decide +kernel
theorem dX9_rule_15 : decode cX9_rule 15 = .ok (.aload_n 0, 1) := by decide +kernel
theorem dX9_rule_16 : decode cX9_rule 16 = .ok (.getfield 20, 3) := by decide +kernel
theorem dX9_rule_19 : decode cX9_rule 19 = .ok (.invokevirtual 101, 3) := by decide +kernel
theorem dX9_rule_22 : decode cX9_rule 22 = .ok (.aload_n 0, 1) := by decide +kernel
theorem dX9_rule_23 : decode cX9_rule 23 = .ok (.getfield 20, 3) := by decide +kernel
theorem dX9_rule_26 : decode cX9_rule 26 = .ok (.getfield 66, 3) := by decide +kernel
theorem dX9_rule_29 : decode cX9_rule 29 = .ok (.iconst 1, 1) := by decide +kernel
theorem dX9_rule_30 : decode cX9_rule 30 = .ok (.iload_n 1, 1) := by decide +kernel
theorem dX9_rule_31 : decode cX9_rule 31 = .ok (.isub, 1) := by decide +kernel
theorem dX9_rule_32 : decode cX9_rule 32 = .ok (.putfield 167, 3) := by decide +kernel
theorem dX9_rule_35 : decode cX9_rule 35 = .ok (.iload_n 1, 1) := by decide +kernel
theorem dX9_rule_36 : decode cX9_rule 36 = .ok (.ireturn, 1) := by decide +kernel
theorem dX9_begin_0 : decode cX9_begin 0 = .ok (.aload_n 0, 1) := by decide +kernel
theorem dX9_begin_1 : decode cX9_begin 1 = .ok (.getfield 20, 3) := by decide +kernel
theorem dX9_begin_4 : decode cX9_begin 4 = .ok (.getfield 115, 3) := by decide +kernel
theorem dX9_begin_7 : decode cX9_begin 7 = .ok (.istore_n 1, 1) := by decide +kernel
theorem dX9_begin_8 : decode cX9_begin 8 = .ok (.aload_n 0, 1) := by decide +kernel
theorem dX9_begin_9 : decode cX9_begin 9 = .ok (.getfield 30, 3) := by decide +kernel
theorem dX9_begin_12 : decode cX9_begin 12 = .ok (.aload_n 0, 1) := by decide +kernel
theorem dX9_begin_13 : decode cX9_begin 13 = .ok (.getfield 20, 3) := by decide +kernel
theorem dX9_begin_16 : decode cX9_begin 16 = .ok (.invokevirtual 101, 3) := by decide +kernel
theorem dX9_begin_19 : decode cX9_begin 19 = .ok (.aload_n 0, 1) := by decide +kernel
theorem dX9_begin_20 : decode cX9_begin 20 = .ok (.getfield 20, 3) := by decide +kernel
theorem dX9_begin_23 : decode cX9_begin 23 = .ok (.invokevirtual 55, 3) := by decide +kernel
theorem dX9_begin_26 : decode cX9_begin 26 = .ok (.iload_n 1, 1) := by decide +kernel
theorem dX9_begin_27 : decode cX9_begin 27 = .ok (.ireturn, 1) := by decide +kernel
theorem dX9_undo_0 : decode cX9_undo 0 = .ok (.aload_n 0, 1) := by decide +kernel
theorem dX9_undo_1 : decode cX9_undo 1 = .ok (.getfield 30, 3) := by decide +kernel
theorem dX9_undo_4 : decode cX9_undo 4 = .ok (.aload_n 0, 1) := by decide +kernel
theorem dX9_undo_5 : decode cX9_undo 5 = .ok (.getfield 20, 3) := by decide +kernel
theorem dX9_undo_8 : decode cX9_undo 8 = .ok (.invokevirtual 170, 3) := by decide +kernel
theorem dX9_undo_11 : decode cX9_undo 11 = .ok (.ifCond .ne 5, 3) := by decide +kernel
theorem dX9_undo_14 : decode cX9_undo 14 = .ok (.iconst (-1), 1) := by decide +kernel
theorem dX9_undo_15 : decode cX9_undo 15 = .ok (.ireturn, 1) := by decide +kernel
theorem dX9_undo_16 : decode cX9_undo 16 = .ok (.aload_n 0, 1) := by decide +kernel
theorem dX9_undo_17 : decode cX9_undo 17 = .ok (.getfield 51, 3) := by decide +kernel
theorem dX9_undo_20 : decode cX9_undo 20 = .ok (.invokevirtual 82, 3) := by decide +kernel
theorem dX9_undo_23 : decode cX9_undo 23 = .ok (.aload_n 0, 1) := by decide +kernel
theorem dX9_undo_24 : decode cX9_undo 24 = .ok (.getfield 30, 3) := by decide +kernel
theorem dX9_undo_27 : decode cX9_undo 27 = .ok (.getfield 174, 3) := by decide +kernel
theorem dX9_undo_30 : decode cX9_undo 30 = .ok (.ireturn, 1) := by decide +kernel
theorem dX9_part_0 : decode cX9_part 0 = .ok (.aload_n 0, 1) := by decide +kernel
theorem dX9_part_1 : decode cX9_part 1 = .ok (.getfield 20, 3) := by decide +kernel
theorem dX9_part_4 : decode cX9_part 4 = .ok (.getfield 66, 3) := by decide +kernel
theorem dX9_part_7 : decode cX9_part 7 = .ok (.iload_n 1, 1) := by decide +kernel
theorem dX9_part_8 : decode cX9_part 8 = .ok (.invokevirtual 131, 3) := by decide +kernel
theorem dX9_part_11 : decode cX9_part 11 = .ok (.ifCond .ne 5, 3) := by decide +kernel
theorem dX9_part_14 : decode cX9_part 14 = .ok (.iconst (-1), 1) := by decide +kernel
theorem dX9_part_15 : decode cX9_part 15 = .ok (.ireturn, 1) := by decide +kernel
theorem dX9_part_16 : decode cX9_part 16 = .ok (.iload_n 2, 1) := by decide +kernel
theorem dX9_part_17 : decode cX9_part 17 = .ok (.tableswitch 135 0 8 #[51, 51, 51, 64, 77, 87, 100, 113, 124], 51) := by decide +kernel
theorem dX9_part_68 : decode cX9_part 68 = .ok (.aload_n 0, 1) := by decide +kernel
theorem dX9_part_69 : decode cX9_part 69 = .ok (.getfield 20, 3) := by decide +kernel
theorem dX9_part_72 : decode cX9_part 72 = .ok (.getfield 66, 3) := by decide +kernel
theorem dX9_part_75 : decode cX9_part 75 = .ok (.iload_n 1, 1) := by decide +kernel
theorem dX9_part_76 : decode cX9_part 76 = .ok (.iload_n 2, 1) := by decide +kernel
theorem dX9_part_77 : decode cX9_part 77 = .ok (.invokevirtual 148, 3) := by decide +kernel
theorem dX9_part_80 : decode cX9_part 80 = .ok (.ireturn, 1) := by decide +kernel
theorem dX9_part_81 : decode cX9_part 81 = .ok (.aload_n 0, 1) := by decide +kernel
theorem dX9_part_82 : decode cX9_part 82 = .ok (.getfield 20, 3) := by decide +kernel
theorem dX9_part_85 : decode cX9_part 85 = .ok (.getfield 66, 3) := by decide +kernel
theorem dX9_part_88 : decode cX9_part 88 = .ok (.getfield 134, 3) := by decide +kernel
theorem dX9_part_91 : decode cX9_part 91 = .ok (.iload_n 1, 1) := by decide +kernel
theorem dX9_part_92 : decode cX9_part 92 = .ok (.iaload, 1) := by decide +kernel
theorem dX9_part_93 : decode cX9_part 93 = .ok (.ireturn, 1) := by decide +kernel
theorem dX9_part_94 : decode cX9_part 94 = .ok (.aload_n 0, 1) := by decide +kernel
theorem dX9_part_95 : decode cX9_part 95 = .ok (.getfield 20, 3) := by decide +kernel
theorem dX9_part_98 : decode cX9_part 98 = .ok (.getfield 137, 3) := by decide +kernel
theorem dX9_part_101 : decode cX9_part 101 = .ok (.iload_n 1, 1) := by decide +kernel
theorem dX9_part_102 : decode cX9_part 102 = .ok (.iaload, 1) := by decide +kernel
theorem dX9_part_103 : decode cX9_part 103 = .ok (.ireturn, 1) := by decide +kernel
theorem dX9_part_104 : decode cX9_part 104 = .ok (.aload_n 0, 1) := by decide +kernel
theorem dX9_part_105 : decode cX9_part 105 = .ok (.getfield 20, 3) := by decide +kernel
theorem dX9_part_108 : decode cX9_part 108 = .ok (.getfield 177, 3) := by decide +kernel
theorem dX9_part_111 : decode cX9_part 111 = .ok (.iconst 3, 1) := by decide +kernel
theorem dX9_part_112 : decode cX9_part 112 = .ok (.iload_n 1, 1) := by decide +kernel
theorem dX9_part_113 : decode cX9_part 113 = .ok (.invokevirtual 181, 3) := by decide +kernel
theorem dX9_part_116 : decode cX9_part 116 = .ok (.ireturn, 1) := by decide +kernel
theorem dX9_part_117 : decode cX9_part 117 = .ok (.aload_n 0, 1) := by decide +kernel
theorem dX9_part_118 : decode cX9_part 118 = .ok (.getfield 20, 3) := by decide +kernel
theorem dX9_part_121 : decode cX9_part 121 = .ok (.getfield 186, 3) := by decide +kernel
theorem dX9_part_124 : decode cX9_part 124 = .ok (.iconst 3, 1) := by decide +kernel
theorem dX9_part_125 : decode cX9_part 125 = .ok (.iload_n 1, 1) := by decide +kernel
theorem dX9_part_126 : decode cX9_part 126 = .ok (.invokevirtual 181, 3) := by decide +kernel
theorem dX9_part_129 : decode cX9_part 129 = .ok (.ireturn, 1) := by decide +kernel
theorem dX9_part_130 : decode cX9_part 130 = .ok (.aload_n 0, 1) := by decide +kernel
theorem dX9_part_131 : decode cX9_part 131 = .ok (.getfield 20, 3) := by decide +kernel
theorem dX9_part_134 : decode cX9_part 134 = .ok (.iconst 4, 1) := by decide +kernel
theorem dX9_part_135 : decode cX9_part 135 = .ok (.iconst 3, 1) := by decide +kernel
theorem dX9_part_136 : decode cX9_part 136 = .ok (.iload_n 1, 1) := by decide +kernel
theorem dX9_part_137 : decode cX9_part 137 = .ok (.invokevirtual 189, 3) := by decide +kernel
theorem dX9_part_140 : decode cX9_part 140 = .ok (.ireturn, 1) := by decide +kernel
theorem dX9_part_141 : decode cX9_part 141 = .ok (.aload_n 0, 1) := by decide +kernel
theorem dX9_part_142 : decode cX9_part 142 = .ok (.getfield 20, 3) := by decide +kernel
theorem dX9_part_145 : decode cX9_part 145 = .ok (.iconst 2, 1) := by decide +kernel
theorem dX9_part_146 : decode cX9_part 146 = .ok (.iconst 3, 1) := by decide +kernel
theorem dX9_part_147 : decode cX9_part 147 = .ok (.iload_n 1, 1) := by decide +kernel
theorem dX9_part_148 : decode cX9_part 148 = .ok (.invokevirtual 189, 3) := by decide +kernel
theorem dX9_part_151 : decode cX9_part 151 = .ok (.ireturn, 1) := by decide +kernel
theorem dX9_part_152 : decode cX9_part 152 = .ok (.iconst (-1), 1) := by decide +kernel
theorem dX9_part_153 : decode cX9_part 153 = .ok (.ireturn, 1) := by decide +kernel
theorem dX9_base_0 : decode cX9_base 0 = .ok (.aload_n 0, 1) := by decide +kernel
theorem dX9_base_1 : decode cX9_base 1 = .ok (.getfield 20, 3) := by decide +kernel
theorem dX9_base_4 : decode cX9_base 4 = .ok (.getfield 66, 3) := by decide +kernel
theorem dX9_base_7 : decode cX9_base 7 = .ok (.iload_n 1, 1) := by decide +kernel
theorem dX9_base_8 : decode cX9_base 8 = .ok (.invokevirtual 193, 3) := by decide +kernel
theorem dX9_base_11 : decode cX9_base 11 = .ok (.ifCond .ne 5, 3) := by decide +kernel
theorem dX9_base_14 : decode cX9_base 14 = .ok (.iconst (-1), 1) := by decide +kernel
theorem dX9_base_15 : decode cX9_base 15 = .ok (.ireturn, 1) := by decide +kernel
theorem dX9_base_16 : decode cX9_base 16 = .ok (.iload_n 1, 1) := by decide +kernel
theorem dX9_base_17 : decode cX9_base 17 = .ok (.iconst 0, 1) := by decide +kernel
theorem dX9_base_18 : decode cX9_base 18 = .ok (.invokestatic 93, 3) := by decide +kernel
theorem dX9_base_21 : decode cX9_base 21 = .ok (.istore_n 3, 1) := by decide +kernel
theorem dX9_base_22 : decode cX9_base 22 = .ok (.iload_n 2, 1) := by decide +kernel
theorem dX9_base_23 : decode cX9_base 23 = .ok (.tableswitch 96 0 4 #[33, 46, 60, 74, 87], 33) := by decide +kernel
theorem dX9_base_56 : decode cX9_base 56 = .ok (.aload_n 0, 1) := by decide +kernel
theorem dX9_base_57 : decode cX9_base 57 = .ok (.getfield 20, 3) := by decide +kernel
theorem dX9_base_60 : decode cX9_base 60 = .ok (.getfield 66, 3) := by decide +kernel
theorem dX9_base_63 : decode cX9_base 63 = .ok (.getfield 196, 3) := by decide +kernel
theorem dX9_base_66 : decode cX9_base 66 = .ok (.iload_n 1, 1) := by decide +kernel
theorem dX9_base_67 : decode cX9_base 67 = .ok (.iaload, 1) := by decide +kernel
theorem dX9_base_68 : decode cX9_base 68 = .ok (.ireturn, 1) := by decide +kernel
theorem dX9_base_69 : decode cX9_base 69 = .ok (.aload_n 0, 1) := by decide +kernel
theorem dX9_base_70 : decode cX9_base 70 = .ok (.getfield 20, 3) := by decide +kernel
theorem dX9_base_73 : decode cX9_base 73 = .ok (.getfield 199, 3) := by decide +kernel
theorem dX9_base_76 : decode cX9_base 76 = .ok (.bipush 12, 2) := by decide +kernel
theorem dX9_base_78 : decode cX9_base 78 = .ok (.iload_n 3, 1) := by decide +kernel
theorem dX9_base_79 : decode cX9_base 79 = .ok (.invokevirtual 181, 3) := by decide +kernel
theorem dX9_base_82 : decode cX9_base 82 = .ok (.ireturn, 1) := by decide +kernel
theorem dX9_base_83 : decode cX9_base 83 = .ok (.aload_n 0, 1) := by decide +kernel
theorem dX9_base_84 : decode cX9_base 84 = .ok (.getfield 20, 3) := by decide +kernel
theorem dX9_base_87 : decode cX9_base 87 = .ok (.getfield 177, 3) := by decide +kernel
theorem dX9_base_90 : decode cX9_base 90 = .ok (.bipush 12, 2) := by decide +kernel
theorem dX9_base_92 : decode cX9_base 92 = .ok (.iload_n 3, 1) := by decide +kernel
theorem dX9_base_93 : decode cX9_base 93 = .ok (.invokevirtual 181, 3) := by decide +kernel
theorem dX9_base_96 : decode cX9_base 96 = .ok (.ireturn, 1) := by decide +kernel
theorem dX9_base_97 : decode cX9_base 97 = .ok (.aload_n 0, 1) := by decide +kernel
theorem dX9_base_98 : decode cX9_base 98 = .ok (.getfield 20, 3) := by decide +kernel
theorem dX9_base_101 : decode cX9_base 101 = .ok (.bipush 24, 2) := by decide +kernel
theorem dX9_base_103 : decode cX9_base 103 = .ok (.bipush 12, 2) := by decide +kernel
theorem dX9_base_105 : decode cX9_base 105 = .ok (.iload_n 3, 1) := by decide +kernel
theorem dX9_base_106 : decode cX9_base 106 = .ok (.invokevirtual 189, 3) := by decide +kernel
theorem dX9_base_109 : decode cX9_base 109 = .ok (.ireturn, 1) := by decide +kernel
theorem dX9_base_110 : decode cX9_base 110 = .ok (.aload_n 0, 1) := by decide +kernel
theorem dX9_base_111 : decode cX9_base 111 = .ok (.getfield 20, 3) := by decide +kernel
theorem dX9_base_114 : decode cX9_base 114 = .ok (.iload_n 1, 1) := by decide +kernel
theorem dX9_base_115 : decode cX9_base 115 = .ok (.invokevirtual 202, 3) := by decide +kernel
theorem dX9_base_118 : decode cX9_base 118 = .ok (.ireturn, 1) := by decide +kernel
theorem dX9_base_119 : decode cX9_base 119 = .ok (.iconst (-1), 1) := by decide +kernel
theorem dX9_base_120 : decode cX9_base 120 = .ok (.ireturn, 1) := by decide +kernel
theorem dX9_cell_0 : decode cX9_cell 0 = .ok (.aload_n 0, 1) := by decide +kernel
theorem dX9_cell_1 : decode cX9_cell 1 = .ok (.getfield 20, 3) := by decide +kernel
theorem dX9_cell_4 : decode cX9_cell 4 = .ok (.getfield 66, 3) := by decide +kernel
theorem dX9_cell_7 : decode cX9_cell 7 = .ok (.iload_n 1, 1) := by decide +kernel
theorem dX9_cell_8 : decode cX9_cell 8 = .ok (.iload_n 2, 1) := by decide +kernel
theorem dX9_cell_9 : decode cX9_cell 9 = .ok (.invokevirtual 89, 3) := by decide +kernel
theorem dX9_cell_12 : decode cX9_cell 12 = .ok (.ifCond .ne 17, 3) := by decide +kernel
theorem dX9_cell_15 : decode cX9_cell 15 = .ok (.iload_n 3, 1) := by decide +kernel
theorem dX9_cell_16 : decode cX9_cell 16 = .ok (.bipush 8, 2) := by decide +kernel
theorem dX9_cell_18 : decode cX9_cell 18 = .ok (.if_icmp .ne 9, 3) := by decide +kernel
theorem dX9_cell_21 : decode cX9_cell 21 = .ok (.sipush (-1000), 3) := by decide +kernel
theorem dX9_cell_24 : decode cX9_cell 24 = .ok (.goto 4, 3) := by decide +kernel
theorem dX9_cell_27 : decode cX9_cell 27 = .ok (.iconst (-1), 1) := by decide +kernel
theorem dX9_cell_28 : decode cX9_cell 28 = .ok (.ireturn, 1) := by decide +kernel
theorem dX9_cell_29 : decode cX9_cell 29 = .ok (.iload_n 1, 1) := by decide +kernel
theorem dX9_cell_30 : decode cX9_cell 30 = .ok (.iload_n 2, 1) := by decide +kernel
theorem dX9_cell_31 : decode cX9_cell 31 = .ok (.invokestatic 93, 3) := by decide +kernel
theorem dX9_cell_34 : decode cX9_cell 34 = .ok (.istore 4, 2) := by decide +kernel
theorem dX9_cell_36 : decode cX9_cell 36 = .ok (.iload_n 3, 1) := by decide +kernel
theorem dX9_cell_37 : decode cX9_cell 37 = .ok (.tableswitch 168 0 8 #[51, 65, 79, 93, 104, 115, 130, 144, 157], 51) := by decide +kernel
theorem dX9_cell_88 : decode cX9_cell 88 = .ok (.aload_n 0, 1) := by decide +kernel
theorem dX9_cell_89 : decode cX9_cell 89 = .ok (.getfield 20, 3) := by decide +kernel
theorem dX9_cell_92 : decode cX9_cell 92 = .ok (.getfield 66, 3) := by decide +kernel
theorem dX9_cell_95 : decode cX9_cell 95 = .ok (.getfield 205, 3) := by decide +kernel
theorem dX9_cell_98 : decode cX9_cell 98 = .ok (.iload 4, 2) := by decide +kernel
theorem dX9_cell_100 : decode cX9_cell 100 = .ok (.iaload, 1) := by decide +kernel
theorem dX9_cell_101 : decode cX9_cell 101 = .ok (.ireturn, 1) := by decide +kernel
theorem dX9_cell_102 : decode cX9_cell 102 = .ok (.aload_n 0, 1) := by decide +kernel
theorem dX9_cell_103 : decode cX9_cell 103 = .ok (.getfield 20, 3) := by decide +kernel
theorem dX9_cell_106 : decode cX9_cell 106 = .ok (.getfield 66, 3) := by decide +kernel
theorem dX9_cell_109 : decode cX9_cell 109 = .ok (.getfield 155, 3) := by decide +kernel
theorem dX9_cell_112 : decode cX9_cell 112 = .ok (.iload 4, 2) := by decide +kernel
theorem dX9_cell_114 : decode cX9_cell 114 = .ok (.iaload, 1) := by decide +kernel
theorem dX9_cell_115 : decode cX9_cell 115 = .ok (.ireturn, 1) := by decide +kernel
theorem dX9_cell_116 : decode cX9_cell 116 = .ok (.aload_n 0, 1) := by decide +kernel
theorem dX9_cell_117 : decode cX9_cell 117 = .ok (.getfield 20, 3) := by decide +kernel
theorem dX9_cell_120 : decode cX9_cell 120 = .ok (.getfield 66, 3) := by decide +kernel
theorem dX9_cell_123 : decode cX9_cell 123 = .ok (.getfield 121, 3) := by decide +kernel
theorem dX9_cell_126 : decode cX9_cell 126 = .ok (.iload 4, 2) := by decide +kernel
theorem dX9_cell_128 : decode cX9_cell 128 = .ok (.iaload, 1) := by decide +kernel
theorem dX9_cell_129 : decode cX9_cell 129 = .ok (.ireturn, 1) := by decide +kernel
theorem dX9_cell_130 : decode cX9_cell 130 = .ok (.aload_n 0, 1) := by decide +kernel
theorem dX9_cell_131 : decode cX9_cell 131 = .ok (.getfield 20, 3) := by decide +kernel
theorem dX9_cell_134 : decode cX9_cell 134 = .ok (.getfield 128, 3) := by decide +kernel
theorem dX9_cell_137 : decode cX9_cell 137 = .ok (.iload 4, 2) := by decide +kernel
theorem dX9_cell_139 : decode cX9_cell 139 = .ok (.iaload, 1) := by decide +kernel
theorem dX9_cell_140 : decode cX9_cell 140 = .ok (.ireturn, 1) := by decide +kernel
theorem dX9_cell_141 : decode cX9_cell 141 = .ok (.aload_n 0, 1) := by decide +kernel
theorem dX9_cell_142 : decode cX9_cell 142 = .ok (.getfield 20, 3) := by decide +kernel
theorem dX9_cell_145 : decode cX9_cell 145 = .ok (.getfield 208, 3) := by decide +kernel
theorem dX9_cell_148 : decode cX9_cell 148 = .ok (.iload 4, 2) := by decide +kernel
theorem dX9_cell_150 : decode cX9_cell 150 = .ok (.iaload, 1) := by decide +kernel
theorem dX9_cell_151 : decode cX9_cell 151 = .ok (.ireturn, 1) := by decide +kernel
theorem dX9_cell_152 : decode cX9_cell 152 = .ok (.aload_n 0, 1) := by decide +kernel
theorem dX9_cell_153 : decode cX9_cell 153 = .ok (.getfield 20, 3) := by decide +kernel
theorem dX9_cell_156 : decode cX9_cell 156 = .ok (.getfield 177, 3) := by decide +kernel
theorem dX9_cell_159 : decode cX9_cell 159 = .ok (.bipush 15, 2) := by decide +kernel
theorem dX9_cell_161 : decode cX9_cell 161 = .ok (.iload 4, 2) := by decide +kernel
theorem dX9_cell_163 : decode cX9_cell 163 = .ok (.invokevirtual 181, 3) := by decide +kernel
theorem dX9_cell_166 : decode cX9_cell 166 = .ok (.ireturn, 1) := by decide +kernel
theorem dX9_cell_167 : decode cX9_cell 167 = .ok (.aload_n 0, 1) := by decide +kernel
theorem dX9_cell_168 : decode cX9_cell 168 = .ok (.getfield 20, 3) := by decide +kernel
theorem dX9_cell_171 : decode cX9_cell 171 = .ok (.bipush 24, 2) := by decide +kernel
theorem dX9_cell_173 : decode cX9_cell 173 = .ok (.bipush 15, 2) := by decide +kernel
theorem dX9_cell_175 : decode cX9_cell 175 = .ok (.iload 4, 2) := by decide +kernel
theorem dX9_cell_177 : decode cX9_cell 177 = .ok (.invokevirtual 189, 3) := by decide +kernel
theorem dX9_cell_180 : decode cX9_cell 180 = .ok (.ireturn, 1) := by decide +kernel
theorem dX9_cell_181 : decode cX9_cell 181 = .ok (.aload_n 0, 1) := by decide +kernel
theorem dX9_cell_182 : decode cX9_cell 182 = .ok (.getfield 20, 3) := by decide +kernel
theorem dX9_cell_185 : decode cX9_cell 185 = .ok (.iconst 1, 1) := by decide +kernel
theorem dX9_cell_186 : decode cX9_cell 186 = .ok (.bipush 15, 2) := by decide +kernel
theorem dX9_cell_188 : decode cX9_cell 188 = .ok (.iload 4, 2) := by decide +kernel
theorem dX9_cell_190 : decode cX9_cell 190 = .ok (.invokevirtual 189, 3) := by decide +kernel
theorem dX9_cell_193 : decode cX9_cell 193 = .ok (.ireturn, 1) := by decide +kernel
theorem dX9_cell_194 : decode cX9_cell 194 = .ok (.aload_n 0, 1) := by decide +kernel
theorem dX9_cell_195 : decode cX9_cell 195 = .ok (.getfield 20, 3) := by decide +kernel
theorem dX9_cell_198 : decode cX9_cell 198 = .ok (.getfield 211, 3) := by decide +kernel
theorem dX9_cell_201 : decode cX9_cell 201 = .ok (.iload 4, 2) := by decide +kernel
theorem dX9_cell_203 : decode cX9_cell 203 = .ok (.iaload, 1) := by decide +kernel
theorem dX9_cell_204 : decode cX9_cell 204 = .ok (.ireturn, 1) := by decide +kernel
theorem dX9_cell_205 : decode cX9_cell 205 = .ok (.iconst (-1), 1) := by decide +kernel
theorem dX9_cell_206 : decode cX9_cell 206 = .ok (.ireturn, 1) := by decide +kernel
theorem dX9_want_0 : decode cX9_want 0 = .ok (.aload_n 0, 1) := by decide +kernel
theorem dX9_want_1 : decode cX9_want 1 = .ok (.getfield 20, 3) := by decide +kernel
theorem dX9_want_4 : decode cX9_want 4 = .ok (.getfield 199, 3) := by decide +kernel
theorem dX9_want_7 : decode cX9_want 7 = .ok (.iload_n 1, 1) := by decide +kernel
theorem dX9_want_8 : decode cX9_want 8 = .ok (.invokevirtual 214, 3) := by decide +kernel
theorem dX9_want_11 : decode cX9_want 11 = .ok (.ifCond .ne 5, 3) := by decide +kernel
theorem dX9_want_14 : decode cX9_want 14 = .ok (.iconst (-1), 1) := by decide +kernel
theorem dX9_want_15 : decode cX9_want 15 = .ok (.ireturn, 1) := by decide +kernel
theorem dX9_want_16 : decode cX9_want 16 = .ok (.aload_n 0, 1) := by decide +kernel
theorem dX9_want_17 : decode cX9_want 17 = .ok (.getfield 20, 3) := by decide +kernel
theorem dX9_want_20 : decode cX9_want 20 = .ok (.getfield 199, 3) := by decide +kernel
theorem dX9_want_23 : decode cX9_want 23 = .ok (.iload_n 1, 1) := by decide +kernel
theorem dX9_want_24 : decode cX9_want 24 = .ok (.invokevirtual 217, 3) := by decide +kernel
theorem dX9_want_27 : decode cX9_want 27 = .ok (.lstore_n 3, 1) := by decide +kernel
theorem dX9_want_28 : decode cX9_want 28 = .ok (.iload_n 2, 1) := by decide +kernel
theorem dX9_want_29 : decode cX9_want 29 = .ok (.tableswitch 57 0 3 #[31, 39, 47, 52], 31) := by decide +kernel
theorem dX9_want_60 : decode cX9_want 60 = .ok (.lload_n 3, 1) := by decide +kernel
theorem dX9_want_61 : decode cX9_want 61 = .ok (.invokestatic 221, 3) := by decide +kernel
theorem dX9_want_64 : decode cX9_want 64 = .ok (.invokestatic 227, 3) := by decide +kernel
theorem dX9_want_67 : decode cX9_want 67 = .ok (.ireturn, 1) := by decide +kernel
theorem dX9_want_68 : decode cX9_want 68 = .ok (.lload_n 3, 1) := by decide +kernel
theorem dX9_want_69 : decode cX9_want 69 = .ok (.invokestatic 221, 3) := by decide +kernel
theorem dX9_want_72 : decode cX9_want 72 = .ok (.invokestatic 230, 3) := by decide +kernel
theorem dX9_want_75 : decode cX9_want 75 = .ok (.ireturn, 1) := by decide +kernel
theorem dX9_want_76 : decode cX9_want 76 = .ok (.lload_n 3, 1) := by decide +kernel
theorem dX9_want_77 : decode cX9_want 77 = .ok (.invokestatic 233, 3) := by decide +kernel
theorem dX9_want_80 : decode cX9_want 80 = .ok (.ireturn, 1) := by decide +kernel
theorem dX9_want_81 : decode cX9_want 81 = .ok (.lload_n 3, 1) := by decide +kernel
theorem dX9_want_82 : decode cX9_want 82 = .ok (.invokestatic 235, 3) := by decide +kernel
theorem dX9_want_85 : decode cX9_want 85 = .ok (.ireturn, 1) := by decide +kernel
theorem dX9_want_86 : decode cX9_want 86 = .ok (.iconst (-1), 1) := by decide +kernel
theorem dX9_want_87 : decode cX9_want 87 = .ok (.ireturn, 1) := by decide +kernel
theorem dX9_call_0 : decode cX9_call 0 = .ok (.aload_n 0, 1) := by decide +kernel
theorem dX9_call_1 : decode cX9_call 1 = .ok (.getfield 20, 3) := by decide +kernel
theorem dX9_call_4 : decode cX9_call 4 = .ok (.getfield 66, 3) := by decide +kernel
theorem dX9_call_7 : decode cX9_call 7 = .ok (.iload_n 1, 1) := by decide +kernel
theorem dX9_call_8 : decode cX9_call 8 = .ok (.invokevirtual 131, 3) := by decide +kernel
theorem dX9_call_11 : decode cX9_call 11 = .ok (.ifCond .ne 5, 3) := by decide +kernel
theorem dX9_call_14 : decode cX9_call 14 = .ok (.iconst (-1), 1) := by decide +kernel
theorem dX9_call_15 : decode cX9_call 15 = .ok (.ireturn, 1) := by decide +kernel
theorem dX9_call_16 : decode cX9_call 16 = .ok (.aload_n 0, 1) := by decide +kernel
theorem dX9_call_17 : decode cX9_call 17 = .ok (.getfield 20, 3) := by decide +kernel
theorem dX9_call_20 : decode cX9_call 20 = .ok (.getfield 177, 3) := by decide +kernel
theorem dX9_call_23 : decode cX9_call 23 = .ok (.iconst 3, 1) := by decide +kernel
theorem dX9_call_24 : decode cX9_call 24 = .ok (.iload_n 1, 1) := by decide +kernel
theorem dX9_call_25 : decode cX9_call 25 = .ok (.iload_n 2, 1) := by decide +kernel
theorem dX9_call_26 : decode cX9_call 26 = .ok (.invokevirtual 238, 3) := by decide +kernel
theorem dX9_call_29 : decode cX9_call 29 = .ok (.istore 4, 2) := by decide +kernel
theorem dX9_call_31 : decode cX9_call 31 = .ok (.iload 4, 2) := by decide +kernel
theorem dX9_call_33 : decode cX9_call 33 = .ok (.iconst (-1), 1) := by decide +kernel
theorem dX9_call_34 : decode cX9_call 34 = .ok (.if_icmp .ne 5, 3) := by decide +kernel
theorem dX9_call_37 : decode cX9_call 37 = .ok (.iconst (-1), 1) := by decide +kernel
theorem dX9_call_38 : decode cX9_call 38 = .ok (.ireturn, 1) := by decide +kernel
theorem dX9_call_39 : decode cX9_call 39 = .ok (.aload_n 0, 1) := by decide +kernel
theorem dX9_call_40 : decode cX9_call 40 = .ok (.getfield 20, 3) := by decide +kernel
theorem dX9_call_43 : decode cX9_call 43 = .ok (.getfield 177, 3) := by decide +kernel
theorem dX9_call_46 : decode cX9_call 46 = .ok (.iload 4, 2) := by decide +kernel
theorem dX9_call_48 : decode cX9_call 48 = .ok (.invokevirtual 217, 3) := by decide +kernel
theorem dX9_call_51 : decode cX9_call 51 = .ok (.lstore 5, 2) := by decide +kernel
theorem dX9_call_53 : decode cX9_call 53 = .ok (.iload_n 3, 1) := by decide +kernel
theorem dX9_call_54 : decode cX9_call 54 = .ok (.lookupswitch 41 #[(0, 26), (1, 35)], 26) := by decide +kernel
theorem dX9_call_80 : decode cX9_call 80 = .ok (.lload 5, 2) := by decide +kernel
theorem dX9_call_82 : decode cX9_call 82 = .ok (.invokestatic 221, 3) := by decide +kernel
theorem dX9_call_85 : decode cX9_call 85 = .ok (.invokestatic 227, 3) := by decide +kernel
theorem dX9_call_88 : decode cX9_call 88 = .ok (.ireturn, 1) := by decide +kernel
theorem dX9_call_89 : decode cX9_call 89 = .ok (.lload 5, 2) := by decide +kernel
theorem dX9_call_91 : decode cX9_call 91 = .ok (.invokestatic 233, 3) := by decide +kernel
theorem dX9_call_94 : decode cX9_call 94 = .ok (.ireturn, 1) := by decide +kernel
theorem dX9_call_95 : decode cX9_call 95 = .ok (.iconst (-1), 1) := by decide +kernel
theorem dX9_call_96 : decode cX9_call 96 = .ok (.ireturn, 1) := by decide +kernel
theorem dX9_way_0 : decode cX9_way 0 = .ok (.aload_n 0, 1) := by decide +kernel
theorem dX9_way_1 : decode cX9_way 1 = .ok (.getfield 20, 3) := by decide +kernel
theorem dX9_way_4 : decode cX9_way 4 = .ok (.getfield 241, 3) := by decide +kernel
theorem dX9_way_7 : decode cX9_way 7 = .ok (.iload_n 1, 1) := by decide +kernel
theorem dX9_way_8 : decode cX9_way 8 = .ok (.invokevirtual 214, 3) := by decide +kernel
theorem dX9_way_11 : decode cX9_way 11 = .ok (.ifCond .ne 5, 3) := by decide +kernel
theorem dX9_way_14 : decode cX9_way 14 = .ok (.iconst (-1), 1) := by decide +kernel
theorem dX9_way_15 : decode cX9_way 15 = .ok (.ireturn, 1) := by decide +kernel
theorem dX9_way_16 : decode cX9_way 16 = .ok (.aload_n 0, 1) := by decide +kernel
theorem dX9_way_17 : decode cX9_way 17 = .ok (.getfield 20, 3) := by decide +kernel
theorem dX9_way_20 : decode cX9_way 20 = .ok (.getfield 241, 3) := by decide +kernel
theorem dX9_way_23 : decode cX9_way 23 = .ok (.iload_n 1, 1) := by decide +kernel
theorem dX9_way_24 : decode cX9_way 24 = .ok (.invokevirtual 217, 3) := by decide +kernel
theorem dX9_way_27 : decode cX9_way 27 = .ok (.lstore_n 3, 1) := by decide +kernel
theorem dX9_way_28 : decode cX9_way 28 = .ok (.iload_n 2, 1) := by decide +kernel
theorem dX9_way_29 : decode cX9_way 29 = .ok (.tableswitch 79 0 4 #[35, 40, 45, 53, 74], 35) := by decide +kernel
theorem dX9_way_64 : decode cX9_way 64 = .ok (.lload_n 3, 1) := by decide +kernel
theorem dX9_way_65 : decode cX9_way 65 = .ok (.invokestatic 235, 3) := by decide +kernel
theorem dX9_way_68 : decode cX9_way 68 = .ok (.ireturn, 1) := by decide +kernel
theorem dX9_way_69 : decode cX9_way 69 = .ok (.lload_n 3, 1) := by decide +kernel
theorem dX9_way_70 : decode cX9_way 70 = .ok (.invokestatic 244, 3) := by decide +kernel
theorem dX9_way_73 : decode cX9_way 73 = .ok (.ireturn, 1) := by decide +kernel
theorem dX9_way_74 : decode cX9_way 74 = .ok (.lload_n 3, 1) := by decide +kernel
theorem dX9_way_75 : decode cX9_way 75 = .ok (.invokestatic 221, 3) := by decide +kernel
theorem dX9_way_78 : decode cX9_way 78 = .ok (.invokestatic 230, 3) := by decide +kernel
theorem dX9_way_81 : decode cX9_way 81 = .ok (.ireturn, 1) := by decide +kernel
theorem dX9_way_82 : decode cX9_way 82 = .ok (.lload_n 3, 1) := by decide +kernel
theorem dX9_way_83 : decode cX9_way 83 = .ok (.invokestatic 235, 3) := by decide +kernel
theorem dX9_way_86 : decode cX9_way 86 = .ok (.iconst 2, 1) := by decide +kernel
theorem dX9_way_87 : decode cX9_way 87 = .ok (.if_icmp .ne 8, 3) := by decide +kernel
theorem dX9_way_90 : decode cX9_way 90 = .ok (.bipush (-2), 2) := by decide +kernel
theorem dX9_way_92 : decode cX9_way 92 = .ok (.goto 10, 3) := by decide +kernel
theorem dX9_way_95 : decode cX9_way 95 = .ok (.lload_n 3, 1) := by decide +kernel
theorem dX9_way_96 : decode cX9_way 96 = .ok (.invokestatic 221, 3) := by decide +kernel
theorem dX9_way_99 : decode cX9_way 99 = .ok (.invokestatic 227, 3) := by decide +kernel
theorem dX9_way_102 : decode cX9_way 102 = .ok (.ireturn, 1) := by decide +kernel
theorem dX9_way_103 : decode cX9_way 103 = .ok (.lload_n 3, 1) := by decide +kernel
theorem dX9_way_104 : decode cX9_way 104 = .ok (.invokestatic 233, 3) := by decide +kernel
theorem dX9_way_107 : decode cX9_way 107 = .ok (.ireturn, 1) := by decide +kernel
theorem dX9_way_108 : decode cX9_way 108 = .ok (.iconst (-1), 1) := by decide +kernel
theorem dX9_way_109 : decode cX9_way 109 = .ok (.ireturn, 1) := by decide +kernel
theorem dX9_waits_0 : decode cX9_waits 0 = .ok (.aload_n 0, 1) := by decide +kernel
theorem dX9_waits_1 : decode cX9_waits 1 = .ok (.getfield 20, 3) := by decide +kernel
theorem dX9_waits_4 : decode cX9_waits 4 = .ok (.getfield 186, 3) := by decide +kernel
theorem dX9_waits_7 : decode cX9_waits 7 = .ok (.iload_n 1, 1) := by decide +kernel
theorem dX9_waits_8 : decode cX9_waits 8 = .ok (.invokevirtual 214, 3) := by decide +kernel
theorem dX9_waits_11 : decode cX9_waits 11 = .ok (.ifCond .eq 23, 3) := by decide +kernel
theorem dX9_waits_14 : decode cX9_waits 14 = .ok (.aload_n 0, 1) := by decide +kernel
theorem dX9_waits_15 : decode cX9_waits 15 = .ok (.getfield 20, 3) := by decide +kernel
theorem dX9_waits_18 : decode cX9_waits 18 = .ok (.getfield 186, 3) := by decide +kernel
theorem dX9_waits_21 : decode cX9_waits 21 = .ok (.iload_n 1, 1) := by decide +kernel
theorem dX9_waits_22 : decode cX9_waits 22 = .ok (.invokevirtual 217, 3) := by decide +kernel
theorem dX9_waits_25 : decode cX9_waits 25 = .ok (.invokestatic 221, 3) := by decide +kernel
theorem dX9_waits_28 : decode cX9_waits 28 = .ok (.invokestatic 230, 3) := by decide +kernel
theorem dX9_waits_31 : decode cX9_waits 31 = .ok (.goto 4, 3) := by decide +kernel
theorem dX9_waits_34 : decode cX9_waits 34 = .ok (.iconst (-1), 1) := by decide +kernel
theorem dX9_waits_35 : decode cX9_waits 35 = .ok (.ireturn, 1) := by decide +kernel
theorem dX9_played_0 : decode cX9_played 0 = .ok (.aload_n 0, 1) := by decide +kernel
theorem dX9_played_1 : decode cX9_played 1 = .ok (.getfield 20, 3) := by decide +kernel
theorem dX9_played_4 : decode cX9_played 4 = .ok (.iload_n 1, 1) := by decide +kernel
theorem dX9_played_5 : decode cX9_played 5 = .ok (.invokevirtual 247, 3) := by decide +kernel
theorem dX9_played_8 : decode cX9_played 8 = .ok (.ireturn, 1) := by decide +kernel
theorem dX9_out_0 : decode cX9_out 0 = .ok (.aload_n 0, 1) := by decide +kernel
theorem dX9_out_1 : decode cX9_out 1 = .ok (.getfield 20, 3) := by decide +kernel
theorem dX9_out_4 : decode cX9_out 4 = .ok (.getfield 66, 3) := by decide +kernel
theorem dX9_out_7 : decode cX9_out 7 = .ok (.iload_n 1, 1) := by decide +kernel
theorem dX9_out_8 : decode cX9_out 8 = .ok (.iload_n 2, 1) := by decide +kernel
theorem dX9_out_9 : decode cX9_out 9 = .ok (.invokevirtual 89, 3) := by decide +kernel
theorem dX9_out_12 : decode cX9_out 12 = .ok (.ifCond .eq 13, 3) := by decide +kernel
theorem dX9_out_15 : decode cX9_out 15 = .ok (.iload_n 3, 1) := by decide +kernel
theorem dX9_out_16 : decode cX9_out 16 = .ok (.ifCond .lt 9, 3) := by decide +kernel
theorem dX9_out_19 : decode cX9_out 19 = .ok (.iload_n 3, 1) := by decide +kernel
theorem dX9_out_20 : decode cX9_out 20 = .ok (.bipush 8, 2) := by decide +kernel
theorem dX9_out_22 : decode cX9_out 22 = .ok (.if_icmp .le 7, 3) := by decide +kernel
theorem dX9_out_25 : decode cX9_out 25 = .ok (.ldc2_w 250, 3) := by decide +kernel
theorem dX9_out_28 : decode cX9_out 28 = .ok (.lreturn, 1) := by decide +kernel
theorem dX9_out_29 : decode cX9_out 29 = .ok (.aload_n 0, 1) := by decide +kernel
theorem dX9_out_30 : decode cX9_out 30 = .ok (.getfield 51, 3) := by decide +kernel
theorem dX9_out_33 : decode cX9_out 33 = .ok (.aload_n 0, 1) := by decide +kernel
theorem dX9_out_34 : decode cX9_out 34 = .ok (.getfield 20, 3) := by decide +kernel
theorem dX9_out_37 : decode cX9_out 37 = .ok (.getfield 66, 3) := by decide +kernel
theorem dX9_out_40 : decode cX9_out 40 = .ok (.invokevirtual 252, 3) := by decide +kernel
theorem dX9_out_43 : decode cX9_out 43 = .ok (.aload_n 0, 1) := by decide +kernel
theorem dX9_out_44 : decode cX9_out 44 = .ok (.getfield 51, 3) := by decide +kernel
theorem dX9_out_47 : decode cX9_out 47 = .ok (.iload_n 1, 1) := by decide +kernel
theorem dX9_out_48 : decode cX9_out 48 = .ok (.iload_n 2, 1) := by decide +kernel
theorem dX9_out_49 : decode cX9_out 49 = .ok (.invokestatic 93, 3) := by decide +kernel
theorem dX9_out_52 : decode cX9_out 52 = .ok (.iload_n 3, 1) := by decide +kernel
theorem dX9_out_53 : decode cX9_out 53 = .ok (.invokevirtual 255, 3) := by decide +kernel
theorem dX9_out_56 : decode cX9_out 56 = .ok (.lreturn, 1) := by decide +kernel
theorem dX9_lack_0 : decode cX9_lack 0 = .ok (.aload_n 0, 1) := by decide +kernel
theorem dX9_lack_1 : decode cX9_lack 1 = .ok (.getfield 20, 3) := by decide +kernel
theorem dX9_lack_4 : decode cX9_lack 4 = .ok (.getfield 66, 3) := by decide +kernel
theorem dX9_lack_7 : decode cX9_lack 7 = .ok (.iload_n 1, 1) := by decide +kernel
theorem dX9_lack_8 : decode cX9_lack 8 = .ok (.iload_n 2, 1) := by decide +kernel
theorem dX9_lack_9 : decode cX9_lack 9 = .ok (.invokevirtual 89, 3) := by decide +kernel
theorem dX9_lack_12 : decode cX9_lack 12 = .ok (.ifCond .eq 13, 3) := by decide +kernel
theorem dX9_lack_15 : decode cX9_lack 15 = .ok (.iload_n 3, 1) := by decide +kernel
theorem dX9_lack_16 : decode cX9_lack 16 = .ok (.ifCond .lt 9, 3) := by decide +kernel
theorem dX9_lack_19 : decode cX9_lack 19 = .ok (.iload_n 3, 1) := by decide +kernel
theorem dX9_lack_20 : decode cX9_lack 20 = .ok (.bipush 9, 2) := by decide +kernel
theorem dX9_lack_22 : decode cX9_lack 22 = .ok (.if_icmp .le 7, 3) := by decide +kernel
theorem dX9_lack_25 : decode cX9_lack 25 = .ok (.ldc2_w 250, 3) := by decide +kernel
theorem dX9_lack_28 : decode cX9_lack 28 = .ok (.lreturn, 1) := by decide +kernel
theorem dX9_lack_29 : decode cX9_lack 29 = .ok (.aload_n 0, 1) := by decide +kernel
theorem dX9_lack_30 : decode cX9_lack 30 = .ok (.getfield 51, 3) := by decide +kernel
theorem dX9_lack_33 : decode cX9_lack 33 = .ok (.aload_n 0, 1) := by decide +kernel
theorem dX9_lack_34 : decode cX9_lack 34 = .ok (.getfield 20, 3) := by decide +kernel
theorem dX9_lack_37 : decode cX9_lack 37 = .ok (.getfield 66, 3) := by decide +kernel
theorem dX9_lack_40 : decode cX9_lack 40 = .ok (.invokevirtual 252, 3) := by decide +kernel
theorem dX9_lack_43 : decode cX9_lack 43 = .ok (.aload_n 0, 1) := by decide +kernel
theorem dX9_lack_44 : decode cX9_lack 44 = .ok (.getfield 51, 3) := by decide +kernel
theorem dX9_lack_47 : decode cX9_lack 47 = .ok (.iload_n 1, 1) := by decide +kernel
theorem dX9_lack_48 : decode cX9_lack 48 = .ok (.iload_n 2, 1) := by decide +kernel
theorem dX9_lack_49 : decode cX9_lack 49 = .ok (.invokestatic 93, 3) := by decide +kernel
theorem dX9_lack_52 : decode cX9_lack 52 = .ok (.iload_n 3, 1) := by decide +kernel
theorem dX9_lack_53 : decode cX9_lack 53 = .ok (.invokevirtual 259, 3) := by decide +kernel
theorem dX9_lack_56 : decode cX9_lack 56 = .ok (.lreturn, 1) := by decide +kernel
theorem dX9_lacks_0 : decode cX9_lacks 0 = .ok (.aload_n 0, 1) := by decide +kernel
theorem dX9_lacks_1 : decode cX9_lacks 1 = .ok (.getfield 51, 3) := by decide +kernel
theorem dX9_lacks_4 : decode cX9_lacks 4 = .ok (.aload_n 0, 1) := by decide +kernel
theorem dX9_lacks_5 : decode cX9_lacks 5 = .ok (.getfield 20, 3) := by decide +kernel
theorem dX9_lacks_8 : decode cX9_lacks 8 = .ok (.getfield 66, 3) := by decide +kernel
theorem dX9_lacks_11 : decode cX9_lacks 11 = .ok (.invokevirtual 252, 3) := by decide +kernel
theorem dX9_lacks_14 : decode cX9_lacks 14 = .ok (.aload_n 0, 1) := by decide +kernel
theorem dX9_lacks_15 : decode cX9_lacks 15 = .ok (.getfield 51, 3) := by decide +kernel
theorem dX9_lacks_18 : decode cX9_lacks 18 = .ok (.aload_n 0, 1) := by decide +kernel
theorem dX9_lacks_19 : decode cX9_lacks 19 = .ok (.getfield 20, 3) := by decide +kernel
theorem dX9_lacks_22 : decode cX9_lacks 22 = .ok (.getfield 66, 3) := by decide +kernel
theorem dX9_lacks_25 : decode cX9_lacks 25 = .ok (.aload_n 0, 1) := by decide +kernel
theorem dX9_lacks_26 : decode cX9_lacks 26 = .ok (.getfield 20, 3) := by decide +kernel
theorem dX9_lacks_29 : decode cX9_lacks 29 = .ok (.getfield 66, 3) := by decide +kernel
theorem dX9_lacks_32 : decode cX9_lacks 32 = .ok (.getfield 121, 3) := by decide +kernel
theorem dX9_lacks_35 : decode cX9_lacks 35 = .ok (.invokevirtual 262, 3) := by decide +kernel
theorem dX9_lacks_38 : decode cX9_lacks 38 = .ok (.lreturn, 1) := by decide +kernel
theorem dX9_sure_0 : decode cX9_sure 0 = .ok (.aload_n 0, 1) := by decide +kernel
theorem dX9_sure_1 : decode cX9_sure 1 = .ok (.getfield 20, 3) := by decide +kernel
theorem dX9_sure_4 : decode cX9_sure 4 = .ok (.getfield 66, 3) := by decide +kernel
theorem dX9_sure_7 : decode cX9_sure 7 = .ok (.iload_n 1, 1) := by decide +kernel
theorem dX9_sure_8 : decode cX9_sure 8 = .ok (.iload_n 2, 1) := by decide +kernel
theorem dX9_sure_9 : decode cX9_sure 9 = .ok (.invokevirtual 89, 3) := by decide +kernel
theorem dX9_sure_12 : decode cX9_sure 12 = .ok (.ifCond .eq 13, 3) := by decide +kernel
theorem dX9_sure_15 : decode cX9_sure 15 = .ok (.iload_n 3, 1) := by decide +kernel
theorem dX9_sure_16 : decode cX9_sure 16 = .ok (.ifCond .lt 9, 3) := by decide +kernel
theorem dX9_sure_19 : decode cX9_sure 19 = .ok (.iload_n 3, 1) := by decide +kernel
theorem dX9_sure_20 : decode cX9_sure 20 = .ok (.bipush 100, 2) := by decide +kernel
theorem dX9_sure_22 : decode cX9_sure 22 = .ok (.if_icmp .le 5, 3) := by decide +kernel
theorem dX9_sure_25 : decode cX9_sure 25 = .ok (.iconst (-1), 1) := by decide +kernel
theorem dX9_sure_26 : decode cX9_sure 26 = .ok (.ireturn, 1) := by decide +kernel
theorem dX9_sure_27 : decode cX9_sure 27 = .ok (.aload_n 0, 1) := by decide +kernel
theorem dX9_sure_28 : decode cX9_sure 28 = .ok (.getfield 51, 3) := by decide +kernel
theorem dX9_sure_31 : decode cX9_sure 31 = .ok (.aload_n 0, 1) := by decide +kernel
theorem dX9_sure_32 : decode cX9_sure 32 = .ok (.getfield 20, 3) := by decide +kernel
theorem dX9_sure_35 : decode cX9_sure 35 = .ok (.getfield 66, 3) := by decide +kernel
theorem dX9_sure_38 : decode cX9_sure 38 = .ok (.invokevirtual 252, 3) := by decide +kernel
theorem dX9_sure_41 : decode cX9_sure 41 = .ok (.aload_n 0, 1) := by decide +kernel
theorem dX9_sure_42 : decode cX9_sure 42 = .ok (.getfield 51, 3) := by decide +kernel
theorem dX9_sure_45 : decode cX9_sure 45 = .ok (.iload_n 1, 1) := by decide +kernel
theorem dX9_sure_46 : decode cX9_sure 46 = .ok (.iload_n 2, 1) := by decide +kernel
theorem dX9_sure_47 : decode cX9_sure 47 = .ok (.invokestatic 93, 3) := by decide +kernel
theorem dX9_sure_50 : decode cX9_sure 50 = .ok (.iload_n 3, 1) := by decide +kernel
theorem dX9_sure_51 : decode cX9_sure 51 = .ok (.invokevirtual 266, 3) := by decide +kernel
theorem dX9_sure_54 : decode cX9_sure 54 = .ok (.ireturn, 1) := by decide +kernel
theorem dX9_buys_0 : decode cX9_buys 0 = .ok (.aload_n 0, 1) := by decide +kernel
theorem dX9_buys_1 : decode cX9_buys 1 = .ok (.getfield 51, 3) := by decide +kernel
theorem dX9_buys_4 : decode cX9_buys 4 = .ok (.aload_n 0, 1) := by decide +kernel
theorem dX9_buys_5 : decode cX9_buys 5 = .ok (.getfield 20, 3) := by decide +kernel
theorem dX9_buys_8 : decode cX9_buys 8 = .ok (.getfield 66, 3) := by decide +kernel
theorem dX9_buys_11 : decode cX9_buys 11 = .ok (.invokevirtual 269, 3) := by decide +kernel
theorem dX9_buys_14 : decode cX9_buys 14 = .ok (.iload_n 1, 1) := by decide +kernel
theorem dX9_buys_15 : decode cX9_buys 15 = .ok (.ifCond .lt 14, 3) := by decide +kernel
theorem dX9_buys_18 : decode cX9_buys 18 = .ok (.iload_n 1, 1) := by decide +kernel
theorem dX9_buys_19 : decode cX9_buys 19 = .ok (.aload_n 0, 1) := by decide +kernel
theorem dX9_buys_20 : decode cX9_buys 20 = .ok (.getfield 51, 3) := by decide +kernel
theorem dX9_buys_23 : decode cX9_buys 23 = .ok (.getfield 272, 3) := by decide +kernel
theorem dX9_buys_26 : decode cX9_buys 26 = .ok (.if_icmp .lt 5, 3) := by decide +kernel
theorem dX9_buys_29 : decode cX9_buys 29 = .ok (.iconst (-1), 1) := by decide +kernel
theorem dX9_buys_30 : decode cX9_buys 30 = .ok (.ireturn, 1) := by decide +kernel
theorem dX9_buys_31 : decode cX9_buys 31 = .ok (.iload_n 2, 1) := by decide +kernel
theorem dX9_buys_32 : decode cX9_buys 32 = .ok (.tableswitch 78 0 3 #[32, 45, 58, 68], 32) := by decide +kernel
theorem dX9_buys_64 : decode cX9_buys 64 = .ok (.aload_n 0, 1) := by decide +kernel
theorem dX9_buys_65 : decode cX9_buys 65 = .ok (.getfield 51, 3) := by decide +kernel
theorem dX9_buys_68 : decode cX9_buys 68 = .ok (.getfield 275, 3) := by decide +kernel
theorem dX9_buys_71 : decode cX9_buys 71 = .ok (.iload_n 1, 1) := by decide +kernel
theorem dX9_buys_72 : decode cX9_buys 72 = .ok (.iaload, 1) := by decide +kernel
theorem dX9_buys_73 : decode cX9_buys 73 = .ok (.invokestatic 227, 3) := by decide +kernel
theorem dX9_buys_76 : decode cX9_buys 76 = .ok (.ireturn, 1) := by decide +kernel
theorem dX9_buys_77 : decode cX9_buys 77 = .ok (.aload_n 0, 1) := by decide +kernel
theorem dX9_buys_78 : decode cX9_buys 78 = .ok (.getfield 51, 3) := by decide +kernel
theorem dX9_buys_81 : decode cX9_buys 81 = .ok (.getfield 275, 3) := by decide +kernel
theorem dX9_buys_84 : decode cX9_buys 84 = .ok (.iload_n 1, 1) := by decide +kernel
theorem dX9_buys_85 : decode cX9_buys 85 = .ok (.iaload, 1) := by decide +kernel
theorem dX9_buys_86 : decode cX9_buys 86 = .ok (.invokestatic 230, 3) := by decide +kernel
theorem dX9_buys_89 : decode cX9_buys 89 = .ok (.ireturn, 1) := by decide +kernel
theorem dX9_buys_90 : decode cX9_buys 90 = .ok (.aload_n 0, 1) := by decide +kernel
theorem dX9_buys_91 : decode cX9_buys 91 = .ok (.getfield 51, 3) := by decide +kernel
theorem dX9_buys_94 : decode cX9_buys 94 = .ok (.getfield 278, 3) := by decide +kernel
theorem dX9_buys_97 : decode cX9_buys 97 = .ok (.iload_n 1, 1) := by decide +kernel
theorem dX9_buys_98 : decode cX9_buys 98 = .ok (.iaload, 1) := by decide +kernel
theorem dX9_buys_99 : decode cX9_buys 99 = .ok (.ireturn, 1) := by decide +kernel
theorem dX9_buys_100 : decode cX9_buys 100 = .ok (.aload_n 0, 1) := by decide +kernel
theorem dX9_buys_101 : decode cX9_buys 101 = .ok (.getfield 51, 3) := by decide +kernel
theorem dX9_buys_104 : decode cX9_buys 104 = .ok (.getfield 281, 3) := by decide +kernel
theorem dX9_buys_107 : decode cX9_buys 107 = .ok (.iload_n 1, 1) := by decide +kernel
theorem dX9_buys_108 : decode cX9_buys 108 = .ok (.iaload, 1) := by decide +kernel
theorem dX9_buys_109 : decode cX9_buys 109 = .ok (.ireturn, 1) := by decide +kernel
theorem dX9_buys_110 : decode cX9_buys 110 = .ok (.iconst (-1), 1) := by decide +kernel
theorem dX9_buys_111 : decode cX9_buys 111 = .ok (.ireturn, 1) := by decide +kernel
theorem dX9_bought_0 : decode cX9_bought 0 = .ok (.iload_n 1, 1) := by decide +kernel
theorem dX9_bought_1 : decode cX9_bought 1 = .ok (.invokestatic 284, 3) := by decide +kernel
theorem dX9_bought_4 : decode cX9_bought 4 = .ok (.ifCond .eq 12, 3) := by decide +kernel
theorem dX9_bought_7 : decode cX9_bought 7 = .ok (.iload_n 2, 1) := by decide +kernel
theorem dX9_bought_8 : decode cX9_bought 8 = .ok (.ifCond .lt 8, 3) := by decide +kernel
theorem dX9_bought_11 : decode cX9_bought 11 = .ok (.iload_n 2, 1) := by decide +kernel
theorem dX9_bought_12 : decode cX9_bought 12 = .ok (.iconst 4, 1) := by decide +kernel
theorem dX9_bought_13 : decode cX9_bought 13 = .ok (.if_icmp .le 5, 3) := by decide +kernel
theorem dX9_bought_16 : decode cX9_bought 16 = .ok (.iconst (-1), 1) := by decide +kernel
theorem dX9_bought_17 : decode cX9_bought 17 = .ok (.ireturn, 1) := by decide +kernel
theorem dX9_bought_18 : decode cX9_bought 18 = .ok (.aload_n 0, 1) := by decide +kernel
theorem dX9_bought_19 : decode cX9_bought 19 = .ok (.getfield 51, 3) := by decide +kernel
theorem dX9_bought_22 : decode cX9_bought 22 = .ok (.aload_n 0, 1) := by decide +kernel
theorem dX9_bought_23 : decode cX9_bought 23 = .ok (.getfield 20, 3) := by decide +kernel
theorem dX9_bought_26 : decode cX9_bought 26 = .ok (.getfield 66, 3) := by decide +kernel
theorem dX9_bought_29 : decode cX9_bought 29 = .ok (.invokevirtual 269, 3) := by decide +kernel
theorem dX9_bought_32 : decode cX9_bought 32 = .ok (.aload_n 0, 1) := by decide +kernel
theorem dX9_bought_33 : decode cX9_bought 33 = .ok (.getfield 51, 3) := by decide +kernel
theorem dX9_bought_36 : decode cX9_bought 36 = .ok (.iload_n 1, 1) := by decide +kernel
theorem dX9_bought_37 : decode cX9_bought 37 = .ok (.invokevirtual 287, 3) := by decide +kernel
theorem dX9_bought_40 : decode cX9_bought 40 = .ok (.istore_n 3, 1) := by decide +kernel
theorem dX9_bought_41 : decode cX9_bought 41 = .ok (.iload_n 2, 1) := by decide +kernel
theorem dX9_bought_42 : decode cX9_bought 42 = .ok (.ifCond .ne 5, 3) := by decide +kernel
theorem dX9_bought_45 : decode cX9_bought 45 = .ok (.iload_n 3, 1) := by decide +kernel
theorem dX9_bought_46 : decode cX9_bought 46 = .ok (.ireturn, 1) := by decide +kernel
theorem dX9_bought_47 : decode cX9_bought 47 = .ok (.iload_n 2, 1) := by decide +kernel
theorem dX9_bought_48 : decode cX9_bought 48 = .ok (.iconst 1, 1) := by decide +kernel
theorem dX9_bought_49 : decode cX9_bought 49 = .ok (.if_icmp .ne 23, 3) := by decide +kernel
theorem dX9_bought_52 : decode cX9_bought 52 = .ok (.iload_n 3, 1) := by decide +kernel
theorem dX9_bought_53 : decode cX9_bought 53 = .ok (.ifCond .le 17, 3) := by decide +kernel
theorem dX9_bought_56 : decode cX9_bought 56 = .ok (.aload_n 0, 1) := by decide +kernel
theorem dX9_bought_57 : decode cX9_bought 57 = .ok (.getfield 51, 3) := by decide +kernel
theorem dX9_bought_60 : decode cX9_bought 60 = .ok (.getfield 281, 3) := by decide +kernel
theorem dX9_bought_63 : decode cX9_bought 63 = .ok (.iload_n 3, 1) := by decide +kernel
theorem dX9_bought_64 : decode cX9_bought 64 = .ok (.iconst 1, 1) := by decide +kernel
theorem dX9_bought_65 : decode cX9_bought 65 = .ok (.isub, 1) := by decide +kernel
theorem dX9_bought_66 : decode cX9_bought 66 = .ok (.iaload, 1) := by decide +kernel
theorem dX9_bought_67 : decode cX9_bought 67 = .ok (.goto 4, 3) := by decide +kernel
theorem dX9_bought_70 : decode cX9_bought 70 = .ok (.iconst 0, 1) := by decide +kernel
theorem dX9_bought_71 : decode cX9_bought 71 = .ok (.ireturn, 1) := by decide +kernel
theorem dX9_bought_72 : decode cX9_bought 72 = .ok (.aload_n 0, 1) := by decide +kernel
theorem dX9_bought_73 : decode cX9_bought 73 = .ok (.getfield 51, 3) := by decide +kernel
theorem dX9_bought_76 : decode cX9_bought 76 = .ok (.iload_n 3, 1) := by decide +kernel
theorem dX9_bought_77 : decode cX9_bought 77 = .ok (.iload_n 2, 1) := by decide +kernel
theorem dX9_bought_78 : decode cX9_bought 78 = .ok (.iconst 2, 1) := by decide +kernel
theorem dX9_bought_79 : decode cX9_bought 79 = .ok (.isub, 1) := by decide +kernel
theorem dX9_bought_80 : decode cX9_bought 80 = .ok (.invokevirtual 290, 3) := by decide +kernel
theorem dX9_bought_83 : decode cX9_bought 83 = .ok (.ireturn, 1) := by decide +kernel
theorem dX9_lacksBy_0 : decode cX9_lacksBy 0 = .ok (.iload_n 1, 1) := by decide +kernel
theorem dX9_lacksBy_1 : decode cX9_lacksBy 1 = .ok (.invokestatic 284, 3) := by decide +kernel
theorem dX9_lacksBy_4 : decode cX9_lacksBy 4 = .ok (.ifCond .ne 7, 3) := by decide +kernel
theorem dX9_lacksBy_7 : decode cX9_lacksBy 7 = .ok (.ldc2_w 250, 3) := by decide +kernel
theorem dX9_lacksBy_10 : decode cX9_lacksBy 10 = .ok (.lreturn, 1) := by decide +kernel
theorem dX9_lacksBy_11 : decode cX9_lacksBy 11 = .ok (.iload_n 2, 1) := by decide +kernel
theorem dX9_lacksBy_12 : decode cX9_lacksBy 12 = .ok (.ifCond .eq 27, 3) := by decide +kernel
theorem dX9_lacksBy_15 : decode cX9_lacksBy 15 = .ok (.aload_n 0, 1) := by decide +kernel
theorem dX9_lacksBy_16 : decode cX9_lacksBy 16 = .ok (.getfield 51, 3) := by decide +kernel
theorem dX9_lacksBy_19 : decode cX9_lacksBy 19 = .ok (.aload_n 0, 1) := by decide +kernel
theorem dX9_lacksBy_20 : decode cX9_lacksBy 20 = .ok (.getfield 20, 3) := by decide +kernel
theorem dX9_lacksBy_23 : decode cX9_lacksBy 23 = .ok (.getfield 66, 3) := by decide +kernel
theorem dX9_lacksBy_26 : decode cX9_lacksBy 26 = .ok (.invokevirtual 293, 3) := by decide +kernel
theorem dX9_lacksBy_29 : decode cX9_lacksBy 29 = .ok (.aload_n 0, 1) := by decide +kernel
theorem dX9_lacksBy_30 : decode cX9_lacksBy 30 = .ok (.getfield 51, 3) := by decide +kernel
theorem dX9_lacksBy_33 : decode cX9_lacksBy 33 = .ok (.getfield 296, 3) := by decide +kernel
theorem dX9_lacksBy_36 : decode cX9_lacksBy 36 = .ok (.iload_n 1, 1) := by decide +kernel
theorem dX9_lacksBy_37 : decode cX9_lacksBy 37 = .ok (.laload, 1) := by decide +kernel
theorem dX9_lacksBy_38 : decode cX9_lacksBy 38 = .ok (.lreturn, 1) := by decide +kernel
theorem dX9_lacksBy_39 : decode cX9_lacksBy 39 = .ok (.aload_n 0, 1) := by decide +kernel
theorem dX9_lacksBy_40 : decode cX9_lacksBy 40 = .ok (.getfield 51, 3) := by decide +kernel
theorem dX9_lacksBy_43 : decode cX9_lacksBy 43 = .ok (.aload_n 0, 1) := by decide +kernel
theorem dX9_lacksBy_44 : decode cX9_lacksBy 44 = .ok (.getfield 20, 3) := by decide +kernel
theorem dX9_lacksBy_47 : decode cX9_lacksBy 47 = .ok (.getfield 66, 3) := by decide +kernel
theorem dX9_lacksBy_50 : decode cX9_lacksBy 50 = .ok (.invokevirtual 269, 3) := by decide +kernel
theorem dX9_lacksBy_53 : decode cX9_lacksBy 53 = .ok (.aload_n 0, 1) := by decide +kernel
theorem dX9_lacksBy_54 : decode cX9_lacksBy 54 = .ok (.getfield 51, 3) := by decide +kernel
theorem dX9_lacksBy_57 : decode cX9_lacksBy 57 = .ok (.aload_n 0, 1) := by decide +kernel
theorem dX9_lacksBy_58 : decode cX9_lacksBy 58 = .ok (.getfield 51, 3) := by decide +kernel
theorem dX9_lacksBy_61 : decode cX9_lacksBy 61 = .ok (.iload_n 1, 1) := by decide +kernel
theorem dX9_lacksBy_62 : decode cX9_lacksBy 62 = .ok (.invokevirtual 287, 3) := by decide +kernel
theorem dX9_lacksBy_65 : decode cX9_lacksBy 65 = .ok (.invokevirtual 300, 3) := by decide +kernel
theorem dX9_lacksBy_68 : decode cX9_lacksBy 68 = .ok (.aload_n 0, 1) := by decide +kernel
theorem dX9_lacksBy_69 : decode cX9_lacksBy 69 = .ok (.getfield 51, 3) := by decide +kernel
theorem dX9_lacksBy_72 : decode cX9_lacksBy 72 = .ok (.aload_n 0, 1) := by decide +kernel
theorem dX9_lacksBy_73 : decode cX9_lacksBy 73 = .ok (.getfield 20, 3) := by decide +kernel
theorem dX9_lacksBy_76 : decode cX9_lacksBy 76 = .ok (.getfield 66, 3) := by decide +kernel
theorem dX9_lacksBy_79 : decode cX9_lacksBy 79 = .ok (.aload_n 0, 1) := by decide +kernel
theorem dX9_lacksBy_80 : decode cX9_lacksBy 80 = .ok (.getfield 51, 3) := by decide +kernel
theorem dX9_lacksBy_83 : decode cX9_lacksBy 83 = .ok (.getfield 303, 3) := by decide +kernel
theorem dX9_lacksBy_86 : decode cX9_lacksBy 86 = .ok (.invokevirtual 262, 3) := by decide +kernel
theorem dX9_lacksBy_89 : decode cX9_lacksBy 89 = .ok (.lreturn, 1) := by decide +kernel
theorem dX9_best_0 : decode cX9_best 0 = .ok (.iload_n 1, 1) := by decide +kernel
theorem dX9_best_1 : decode cX9_best 1 = .ok (.invokestatic 284, 3) := by decide +kernel
theorem dX9_best_4 : decode cX9_best 4 = .ok (.ifCond .eq 18, 3) := by decide +kernel
theorem dX9_best_7 : decode cX9_best 7 = .ok (.aload_n 0, 1) := by decide +kernel
theorem dX9_best_8 : decode cX9_best 8 = .ok (.getfield 20, 3) := by decide +kernel
theorem dX9_best_11 : decode cX9_best 11 = .ok (.getfield 66, 3) := by decide +kernel
theorem dX9_best_14 : decode cX9_best 14 = .ok (.iload_n 2, 1) := by decide +kernel
theorem dX9_best_15 : decode cX9_best 15 = .ok (.iload_n 3, 1) := by decide +kernel
theorem dX9_best_16 : decode cX9_best 16 = .ok (.invokevirtual 89, 3) := by decide +kernel
theorem dX9_best_19 : decode cX9_best 19 = .ok (.ifCond .ne 5, 3) := by decide +kernel
theorem dX9_best_22 : decode cX9_best 22 = .ok (.iconst (-1), 1) := by decide +kernel
theorem dX9_best_23 : decode cX9_best 23 = .ok (.ireturn, 1) := by decide +kernel
theorem dX9_best_24 : decode cX9_best 24 = .ok (.aload_n 0, 1) := by decide +kernel
theorem dX9_best_25 : decode cX9_best 25 = .ok (.getfield 51, 3) := by decide +kernel
theorem dX9_best_28 : decode cX9_best 28 = .ok (.aload_n 0, 1) := by decide +kernel
theorem dX9_best_29 : decode cX9_best 29 = .ok (.getfield 20, 3) := by decide +kernel
theorem dX9_best_32 : decode cX9_best 32 = .ok (.getfield 66, 3) := by decide +kernel
theorem dX9_best_35 : decode cX9_best 35 = .ok (.invokevirtual 293, 3) := by decide +kernel
theorem dX9_best_38 : decode cX9_best 38 = .ok (.aload_n 0, 1) := by decide +kernel
theorem dX9_best_39 : decode cX9_best 39 = .ok (.getfield 51, 3) := by decide +kernel
theorem dX9_best_42 : decode cX9_best 42 = .ok (.aload_n 0, 1) := by decide +kernel
theorem dX9_best_43 : decode cX9_best 43 = .ok (.getfield 20, 3) := by decide +kernel
theorem dX9_best_46 : decode cX9_best 46 = .ok (.getfield 66, 3) := by decide +kernel
theorem dX9_best_49 : decode cX9_best 49 = .ok (.iload_n 1, 1) := by decide +kernel
theorem dX9_best_50 : decode cX9_best 50 = .ok (.iload_n 2, 1) := by decide +kernel
theorem dX9_best_51 : decode cX9_best 51 = .ok (.iconst 3, 1) := by decide +kernel
theorem dX9_best_52 : decode cX9_best 52 = .ok (.imul, 1) := by decide +kernel
theorem dX9_best_53 : decode cX9_best 53 = .ok (.iload_n 3, 1) := by decide +kernel
theorem dX9_best_54 : decode cX9_best 54 = .ok (.iadd, 1) := by decide +kernel
theorem dX9_best_55 : decode cX9_best 55 = .ok (.invokevirtual 306, 3) := by decide +kernel
theorem dX9_best_58 : decode cX9_best 58 = .ok (.ireturn, 1) := by decide +kernel
theorem dX9_purseFor_0 : decode cX9_purseFor 0 = .ok (.iload_n 1, 1) := by decide +kernel
theorem dX9_purseFor_1 : decode cX9_purseFor 1 = .ok (.ifCond .lt 9, 3) := by decide +kernel
theorem dX9_purseFor_4 : decode cX9_purseFor 4 = .ok (.iload_n 1, 1) := by decide +kernel
theorem dX9_purseFor_5 : decode cX9_purseFor 5 = .ok (.bipush 100, 2) := by decide +kernel
theorem dX9_purseFor_7 : decode cX9_purseFor 7 = .ok (.if_icmp .le 5, 3) := by decide +kernel
theorem dX9_purseFor_10 : decode cX9_purseFor 10 = .ok (.iconst (-1), 1) := by decide +kernel
theorem dX9_purseFor_11 : decode cX9_purseFor 11 = .ok (.ireturn, 1) := by decide +kernel
theorem dX9_purseFor_12 : decode cX9_purseFor 12 = .ok (.aload_n 0, 1) := by decide +kernel
theorem dX9_purseFor_13 : decode cX9_purseFor 13 = .ok (.getfield 51, 3) := by decide +kernel
theorem dX9_purseFor_16 : decode cX9_purseFor 16 = .ok (.aload_n 0, 1) := by decide +kernel
theorem dX9_purseFor_17 : decode cX9_purseFor 17 = .ok (.getfield 20, 3) := by decide +kernel
theorem dX9_purseFor_20 : decode cX9_purseFor 20 = .ok (.getfield 66, 3) := by decide +kernel
theorem dX9_purseFor_23 : decode cX9_purseFor 23 = .ok (.invokevirtual 293, 3) := by decide +kernel
theorem dX9_purseFor_26 : decode cX9_purseFor 26 = .ok (.aload_n 0, 1) := by decide +kernel
theorem dX9_purseFor_27 : decode cX9_purseFor 27 = .ok (.getfield 51, 3) := by decide +kernel
theorem dX9_purseFor_30 : decode cX9_purseFor 30 = .ok (.getfield 296, 3) := by decide +kernel
theorem dX9_purseFor_33 : decode cX9_purseFor 33 = .ok (.iconst 0, 1) := by decide +kernel
theorem dX9_purseFor_34 : decode cX9_purseFor 34 = .ok (.laload, 1) := by decide +kernel
theorem dX9_purseFor_35 : decode cX9_purseFor 35 = .ok (.iload_n 1, 1) := by decide +kernel
theorem dX9_purseFor_36 : decode cX9_purseFor 36 = .ok (.i2l, 1) := by decide +kernel
theorem dX9_purseFor_37 : decode cX9_purseFor 37 = .ok (.lmul, 1) := by decide +kernel
theorem dX9_purseFor_38 : decode cX9_purseFor 38 = .ok (.lstore_n 2, 1) := by decide +kernel
theorem dX9_purseFor_39 : decode cX9_purseFor 39 = .ok (.iconst 0, 1) := by decide +kernel
theorem dX9_purseFor_40 : decode cX9_purseFor 40 = .ok (.istore 4, 2) := by decide +kernel
theorem dX9_purseFor_42 : decode cX9_purseFor 42 = .ok (.iload 4, 2) := by decide +kernel
theorem dX9_purseFor_44 : decode cX9_purseFor 44 = .ok (.bipush 99, 2) := by decide +kernel
theorem dX9_purseFor_46 : decode cX9_purseFor 46 = .ok (.if_icmp .gt 31, 3) := by decide +kernel
theorem dX9_purseFor_49 : decode cX9_purseFor 49 = .ok (.aload_n 0, 1) := by decide +kernel
theorem dX9_purseFor_50 : decode cX9_purseFor 50 = .ok (.getfield 51, 3) := by decide +kernel
theorem dX9_purseFor_53 : decode cX9_purseFor 53 = .ok (.getfield 296, 3) := by decide +kernel
theorem dX9_purseFor_56 : decode cX9_purseFor 56 = .ok (.iload 4, 2) := by decide +kernel
theorem dX9_purseFor_58 : decode cX9_purseFor 58 = .ok (.laload, 1) := by decide +kernel
theorem dX9_purseFor_59 : decode cX9_purseFor 59 = .ok (.ldc2_w 310, 3) := by decide +kernel
theorem dX9_purseFor_62 : decode cX9_purseFor 62 = .ok (.lmul, 1) := by decide +kernel
theorem dX9_purseFor_63 : decode cX9_purseFor 63 = .ok (.lload_n 2, 1) := by decide +kernel
theorem dX9_purseFor_64 : decode cX9_purseFor 64 = .ok (.lcmp, 1) := by decide +kernel
theorem dX9_purseFor_65 : decode cX9_purseFor 65 = .ok (.ifCond .gt 6, 3) := by decide +kernel
theorem dX9_purseFor_68 : decode cX9_purseFor 68 = .ok (.iload 4, 2) := by decide +kernel
theorem dX9_purseFor_70 : decode cX9_purseFor 70 = .ok (.ireturn, 1) := by decide +kernel
theorem dX9_purseFor_71 : decode cX9_purseFor 71 = .ok (.iinc 4 1, 3) := by decide +kernel
theorem dX9_purseFor_74 : decode cX9_purseFor 74 = .ok (.goto (-32), 3) := by decide +kernel
theorem dX9_purseFor_77 : decode cX9_purseFor 77 = .ok (.bipush (-2), 2) := by decide +kernel
theorem dX9_purseFor_79 : decode cX9_purseFor 79 = .ok (.ireturn, 1) := by decide +kernel
theorem dX9_isPurse_0 : decode cX9_isPurse 0 = .ok (.iload_n 0, 1) := by decide +kernel
theorem dX9_isPurse_1 : decode cX9_isPurse 1 = .ok (.ifCond .lt 13, 3) := by decide +kernel
theorem dX9_isPurse_4 : decode cX9_isPurse 4 = .ok (.iload_n 0, 1) := by decide +kernel
theorem dX9_isPurse_5 : decode cX9_isPurse 5 = .ok (.bipush 99, 2) := by decide +kernel
theorem dX9_isPurse_7 : decode cX9_isPurse 7 = .ok (.if_icmp .gt 7, 3) := by decide +kernel
theorem dX9_isPurse_10 : decode cX9_isPurse 10 = .ok (.iconst 1, 1) := by decide +kernel
theorem dX9_isPurse_11 : decode cX9_isPurse 11 = .ok (.goto 4, 3) := by decide +kernel
theorem dX9_isPurse_14 : decode cX9_isPurse 14 = .ok (.iconst 0, 1) := by decide +kernel
theorem dX9_isPurse_15 : decode cX9_isPurse 15 = .ok (.ireturn, 1) := by decide +kernel
theorem dX9_would_0 : decode cX9_would 0 = .ok (.aload_n 0, 1) := by decide +kernel
theorem dX9_would_1 : decode cX9_would 1 = .ok (.getfield 20, 3) := by decide +kernel
theorem dX9_would_4 : decode cX9_would 4 = .ok (.iload_n 1, 1) := by decide +kernel
theorem dX9_would_5 : decode cX9_would 5 = .ok (.bipush 12, 2) := by decide +kernel
theorem dX9_would_7 : decode cX9_would 7 = .ok (.invokevirtual 109, 3) := by decide +kernel
theorem dX9_would_10 : decode cX9_would 10 = .ok (.ifCond .ne 5, 3) := by decide +kernel
theorem dX9_would_13 : decode cX9_would 13 = .ok (.iconst (-1), 1) := by decide +kernel
theorem dX9_would_14 : decode cX9_would 14 = .ok (.ireturn, 1) := by decide +kernel
theorem dX9_would_15 : decode cX9_would 15 = .ok (.aload_n 0, 1) := by decide +kernel
theorem dX9_would_16 : decode cX9_would 16 = .ok (.getfield 24, 3) := by decide +kernel
theorem dX9_would_19 : decode cX9_would 19 = .ok (.aload_n 0, 1) := by decide +kernel
theorem dX9_would_20 : decode cX9_would 20 = .ok (.getfield 20, 3) := by decide +kernel
theorem dX9_would_23 : decode cX9_would 23 = .ok (.invokevirtual 312, 3) := by decide +kernel
theorem dX9_would_26 : decode cX9_would 26 = .ok (.aload_n 0, 1) := by decide +kernel
theorem dX9_would_27 : decode cX9_would 27 = .ok (.getfield 24, 3) := by decide +kernel
theorem dX9_would_30 : decode cX9_would 30 = .ok (.iload_n 1, 1) := by decide +kernel
theorem dX9_would_31 : decode cX9_would 31 = .ok (.iload_n 2, 1) := by decide +kernel
theorem dX9_would_32 : decode cX9_would 32 = .ok (.invokevirtual 118, 3) := by decide +kernel
theorem dX9_would_35 : decode cX9_would 35 = .ok (.pop, 1) := by decide +kernel
theorem dX9_would_36 : decode cX9_would 36 = .ok (.aload_n 0, 1) := by decide +kernel
theorem dX9_would_37 : decode cX9_would 37 = .ok (.getfield 24, 3) := by decide +kernel
theorem dX9_would_40 : decode cX9_would 40 = .ok (.iload_n 3, 1) := by decide +kernel
theorem dX9_would_41 : decode cX9_would 41 = .ok (.invokevirtual 247, 3) := by decide +kernel
theorem dX9_would_44 : decode cX9_would 44 = .ok (.ireturn, 1) := by decide +kernel
theorem dX9_spared_0 : decode cX9_spared 0 = .ok (.aload_n 0, 1) := by decide +kernel
theorem dX9_spared_1 : decode cX9_spared 1 = .ok (.getfield 20, 3) := by decide +kernel
theorem dX9_spared_4 : decode cX9_spared 4 = .ok (.iload_n 1, 1) := by decide +kernel
theorem dX9_spared_5 : decode cX9_spared 5 = .ok (.bipush 12, 2) := by decide +kernel
theorem dX9_spared_7 : decode cX9_spared 7 = .ok (.invokevirtual 109, 3) := by decide +kernel
theorem dX9_spared_10 : decode cX9_spared 10 = .ok (.ifCond .eq 19, 3) := by decide +kernel
theorem dX9_spared_13 : decode cX9_spared 13 = .ok (.aload_n 0, 1) := by decide +kernel
theorem dX9_spared_14 : decode cX9_spared 14 = .ok (.getfield 20, 3) := by decide +kernel
theorem dX9_spared_17 : decode cX9_spared 17 = .ok (.getfield 66, 3) := by decide +kernel
theorem dX9_spared_20 : decode cX9_spared 20 = .ok (.iload_n 3, 1) := by decide +kernel
theorem dX9_spared_21 : decode cX9_spared 21 = .ok (.iload 4, 2) := by decide +kernel
theorem dX9_spared_23 : decode cX9_spared 23 = .ok (.invokevirtual 89, 3) := by decide +kernel
theorem dX9_spared_26 : decode cX9_spared 26 = .ok (.ifCond .ne 7, 3) := by decide +kernel
theorem dX9_spared_29 : decode cX9_spared 29 = .ok (.ldc_w 314, 3) := by decide +kernel
theorem dX9_spared_32 : decode cX9_spared 32 = .ok (.ireturn, 1) := by decide +kernel
theorem dX9_spared_33 : decode cX9_spared 33 = .ok (.aload_n 0, 1) := by decide +kernel
theorem dX9_spared_34 : decode cX9_spared 34 = .ok (.getfield 24, 3) := by decide +kernel
theorem dX9_spared_37 : decode cX9_spared 37 = .ok (.aload_n 0, 1) := by decide +kernel
theorem dX9_spared_38 : decode cX9_spared 38 = .ok (.getfield 20, 3) := by decide +kernel
theorem dX9_spared_41 : decode cX9_spared 41 = .ok (.invokevirtual 312, 3) := by decide +kernel
theorem dX9_spared_44 : decode cX9_spared 44 = .ok (.aload_n 0, 1) := by decide +kernel
theorem dX9_spared_45 : decode cX9_spared 45 = .ok (.iload_n 1, 1) := by decide +kernel
theorem dX9_spared_46 : decode cX9_spared 46 = .ok (.iload_n 2, 1) := by decide +kernel
theorem dX9_spared_47 : decode cX9_spared 47 = .ok (.invokevirtual 315, 3) := by decide +kernel
theorem dX9_spared_50 : decode cX9_spared 50 = .ok (.istore 5, 2) := by decide +kernel
theorem dX9_spared_52 : decode cX9_spared 52 = .ok (.aload_n 0, 1) := by decide +kernel
theorem dX9_spared_53 : decode cX9_spared 53 = .ok (.getfield 24, 3) := by decide +kernel
theorem dX9_spared_56 : decode cX9_spared 56 = .ok (.aload_n 0, 1) := by decide +kernel
theorem dX9_spared_57 : decode cX9_spared 57 = .ok (.getfield 20, 3) := by decide +kernel
theorem dX9_spared_60 : decode cX9_spared 60 = .ok (.invokevirtual 312, 3) := by decide +kernel
theorem dX9_spared_63 : decode cX9_spared 63 = .ok (.aload_n 0, 1) := by decide +kernel
theorem dX9_spared_64 : decode cX9_spared 64 = .ok (.getfield 24, 3) := by decide +kernel
theorem dX9_spared_67 : decode cX9_spared 67 = .ok (.iload_n 3, 1) := by decide +kernel
theorem dX9_spared_68 : decode cX9_spared 68 = .ok (.iload 4, 2) := by decide +kernel
theorem dX9_spared_70 : decode cX9_spared 70 = .ok (.invokestatic 93, 3) := by decide +kernel
theorem dX9_spared_73 : decode cX9_spared 73 = .ok (.invokevirtual 125, 3) := by decide +kernel
theorem dX9_spared_76 : decode cX9_spared 76 = .ok (.iload 5, 2) := by decide +kernel
theorem dX9_spared_78 : decode cX9_spared 78 = .ok (.aload_n 0, 1) := by decide +kernel
theorem dX9_spared_79 : decode cX9_spared 79 = .ok (.iload_n 1, 1) := by decide +kernel
theorem dX9_spared_80 : decode cX9_spared 80 = .ok (.iload_n 2, 1) := by decide +kernel
theorem dX9_spared_81 : decode cX9_spared 81 = .ok (.invokevirtual 315, 3) := by decide +kernel
theorem dX9_spared_84 : decode cX9_spared 84 = .ok (.isub, 1) := by decide +kernel
theorem dX9_spared_85 : decode cX9_spared 85 = .ok (.ireturn, 1) := by decide +kernel
theorem dX9_by_0 : decode cX9_by 0 = .ok (.aload_n 0, 1) := by decide +kernel
theorem dX9_by_1 : decode cX9_by 1 = .ok (.getfield 20, 3) := by decide +kernel
theorem dX9_by_4 : decode cX9_by 4 = .ok (.iload_n 1, 1) := by decide +kernel
theorem dX9_by_5 : decode cX9_by 5 = .ok (.bipush 12, 2) := by decide +kernel
theorem dX9_by_7 : decode cX9_by 7 = .ok (.invokevirtual 109, 3) := by decide +kernel
theorem dX9_by_10 : decode cX9_by 10 = .ok (.ifCond .eq 12, 3) := by decide +kernel
theorem dX9_by_13 : decode cX9_by 13 = .ok (.iload_n 3, 1) := by decide +kernel
theorem dX9_by_14 : decode cX9_by 14 = .ok (.ifCond .lt 8, 3) := by decide +kernel
theorem dX9_by_17 : decode cX9_by 17 = .ok (.iload_n 3, 1) := by decide +kernel
theorem dX9_by_18 : decode cX9_by 18 = .ok (.iconst 2, 1) := by decide +kernel
theorem dX9_by_19 : decode cX9_by 19 = .ok (.if_icmp .le 5, 3) := by decide +kernel
theorem dX9_by_22 : decode cX9_by 22 = .ok (.iconst (-1), 1) := by decide +kernel
theorem dX9_by_23 : decode cX9_by 23 = .ok (.ireturn, 1) := by decide +kernel
theorem dX9_by_24 : decode cX9_by 24 = .ok (.iload_n 3, 1) := by decide +kernel
theorem dX9_by_25 : decode cX9_by 25 = .ok (.invokestatic 318, 3) := by decide +kernel
theorem dX9_by_28 : decode cX9_by 28 = .ok (.iload 4, 2) := by decide +kernel
theorem dX9_by_30 : decode cX9_by 30 = .ok (.invokestatic 321, 3) := by decide +kernel
theorem dX9_by_33 : decode cX9_by 33 = .ok (.ifCond .ne 5, 3) := by decide +kernel
theorem dX9_by_36 : decode cX9_by 36 = .ok (.iconst (-1), 1) := by decide +kernel
theorem dX9_by_37 : decode cX9_by 37 = .ok (.ireturn, 1) := by decide +kernel
theorem dX9_by_38 : decode cX9_by 38 = .ok (.aload_n 0, 1) := by decide +kernel
theorem dX9_by_39 : decode cX9_by 39 = .ok (.getfield 24, 3) := by decide +kernel
theorem dX9_by_42 : decode cX9_by 42 = .ok (.aload_n 0, 1) := by decide +kernel
theorem dX9_by_43 : decode cX9_by 43 = .ok (.getfield 20, 3) := by decide +kernel
theorem dX9_by_46 : decode cX9_by 46 = .ok (.invokevirtual 312, 3) := by decide +kernel
theorem dX9_by_49 : decode cX9_by 49 = .ok (.iload_n 3, 1) := by decide +kernel
theorem dX9_by_50 : decode cX9_by 50 = .ok (.ifCond .ne 18, 3) := by decide +kernel
theorem dX9_by_53 : decode cX9_by 53 = .ok (.aload_n 0, 1) := by decide +kernel
theorem dX9_by_54 : decode cX9_by 54 = .ok (.getfield 24, 3) := by decide +kernel
theorem dX9_by_57 : decode cX9_by 57 = .ok (.getfield 66, 3) := by decide +kernel
theorem dX9_by_60 : decode cX9_by 60 = .ok (.iload 4, 2) := by decide +kernel
theorem dX9_by_62 : decode cX9_by 62 = .ok (.putfield 167, 3) := by decide +kernel
theorem dX9_by_65 : decode cX9_by 65 = .ok (.goto 32, 3) := by decide +kernel
theorem dX9_by_68 : decode cX9_by 68 = .ok (.iload_n 3, 1) := by decide +kernel
theorem dX9_by_69 : decode cX9_by 69 = .ok (.iconst 1, 1) := by decide +kernel
theorem dX9_by_70 : decode cX9_by 70 = .ok (.if_icmp .ne 18, 3) := by decide +kernel
theorem dX9_by_73 : decode cX9_by 73 = .ok (.aload_n 0, 1) := by decide +kernel
theorem dX9_by_74 : decode cX9_by 74 = .ok (.getfield 24, 3) := by decide +kernel
theorem dX9_by_77 : decode cX9_by 77 = .ok (.getfield 66, 3) := by decide +kernel
theorem dX9_by_80 : decode cX9_by 80 = .ok (.iload 4, 2) := by decide +kernel
theorem dX9_by_82 : decode cX9_by 82 = .ok (.putfield 164, 3) := by decide +kernel
theorem dX9_by_85 : decode cX9_by 85 = .ok (.goto 12, 3) := by decide +kernel
theorem dX9_by_88 : decode cX9_by 88 = .ok (.aload_n 0, 1) := by decide +kernel
theorem dX9_by_89 : decode cX9_by 89 = .ok (.getfield 24, 3) := by decide +kernel
theorem dX9_by_92 : decode cX9_by 92 = .ok (.iload 4, 2) := by decide +kernel
theorem dX9_by_94 : decode cX9_by 94 = .ok (.invokevirtual 161, 3) := by decide +kernel
theorem dX9_by_97 : decode cX9_by 97 = .ok (.aload_n 0, 1) := by decide +kernel
theorem dX9_by_98 : decode cX9_by 98 = .ok (.iload_n 1, 1) := by decide +kernel
theorem dX9_by_99 : decode cX9_by 99 = .ok (.iload_n 2, 1) := by decide +kernel
theorem dX9_by_100 : decode cX9_by 100 = .ok (.invokevirtual 315, 3) := by decide +kernel
theorem dX9_by_103 : decode cX9_by 103 = .ok (.ireturn, 1) := by decide +kernel
theorem dX9_whichWord_0 : decode cX9_whichWord 0 = .ok (.iload_n 0, 1) := by decide +kernel
theorem dX9_whichWord_1 : decode cX9_whichWord 1 = .ok (.ifCond .ne 7, 3) := by decide +kernel
theorem dX9_whichWord_4 : decode cX9_whichWord 4 = .ok (.iconst 2, 1) := by decide +kernel
theorem dX9_whichWord_5 : decode cX9_whichWord 5 = .ok (.goto 13, 3) := by decide +kernel
theorem dX9_whichWord_8 : decode cX9_whichWord 8 = .ok (.iload_n 0, 1) := by decide +kernel
theorem dX9_whichWord_9 : decode cX9_whichWord 9 = .ok (.iconst 1, 1) := by decide +kernel
theorem dX9_whichWord_10 : decode cX9_whichWord 10 = .ok (.if_icmp .ne 7, 3) := by decide +kernel
theorem dX9_whichWord_13 : decode cX9_whichWord 13 = .ok (.iconst 1, 1) := by decide +kernel
theorem dX9_whichWord_14 : decode cX9_whichWord 14 = .ok (.goto 4, 3) := by decide +kernel
theorem dX9_whichWord_17 : decode cX9_whichWord 17 = .ok (.iconst 0, 1) := by decide +kernel
theorem dX9_whichWord_18 : decode cX9_whichWord 18 = .ok (.ireturn, 1) := by decide +kernel
theorem dX9_bestKeep_0 : decode cX9_bestKeep 0 = .ok (.aload_n 0, 1) := by decide +kernel
theorem dX9_bestKeep_1 : decode cX9_bestKeep 1 = .ok (.getfield 20, 3) := by decide +kernel
theorem dX9_bestKeep_4 : decode cX9_bestKeep 4 = .ok (.iload_n 1, 1) := by decide +kernel
theorem dX9_bestKeep_5 : decode cX9_bestKeep 5 = .ok (.bipush 12, 2) := by decide +kernel
theorem dX9_bestKeep_7 : decode cX9_bestKeep 7 = .ok (.invokevirtual 109, 3) := by decide +kernel
theorem dX9_bestKeep_10 : decode cX9_bestKeep 10 = .ok (.ifCond .ne 5, 3) := by decide +kernel
theorem dX9_bestKeep_13 : decode cX9_bestKeep 13 = .ok (.iconst (-1), 1) := by decide +kernel
theorem dX9_bestKeep_14 : decode cX9_bestKeep 14 = .ok (.ireturn, 1) := by decide +kernel
theorem dX9_bestKeep_15 : decode cX9_bestKeep 15 = .ok (.iconst 0, 1) := by decide +kernel
theorem dX9_bestKeep_16 : decode cX9_bestKeep 16 = .ok (.istore_n 3, 1) := by decide +kernel
theorem dX9_bestKeep_17 : decode cX9_bestKeep 17 = .ok (.iconst 0, 1) := by decide +kernel
theorem dX9_bestKeep_18 : decode cX9_bestKeep 18 = .ok (.istore 4, 2) := by decide +kernel
theorem dX9_bestKeep_20 : decode cX9_bestKeep 20 = .ok (.iconst 0, 1) := by decide +kernel
theorem dX9_bestKeep_21 : decode cX9_bestKeep 21 = .ok (.istore 5, 2) := by decide +kernel
theorem dX9_bestKeep_23 : decode cX9_bestKeep 23 = .ok (.iload 5, 2) := by decide +kernel
theorem dX9_bestKeep_25 : decode cX9_bestKeep 25 = .ok (.iconst 4, 1) := by decide +kernel
theorem dX9_bestKeep_26 : decode cX9_bestKeep 26 = .ok (.if_icmp .gt 59, 3) := by decide +kernel
theorem dX9_bestKeep_29 : decode cX9_bestKeep 29 = .ok (.aload_n 0, 1) := by decide +kernel
theorem dX9_bestKeep_30 : decode cX9_bestKeep 30 = .ok (.getfield 24, 3) := by decide +kernel
theorem dX9_bestKeep_33 : decode cX9_bestKeep 33 = .ok (.aload_n 0, 1) := by decide +kernel
theorem dX9_bestKeep_34 : decode cX9_bestKeep 34 = .ok (.getfield 20, 3) := by decide +kernel
theorem dX9_bestKeep_37 : decode cX9_bestKeep 37 = .ok (.invokevirtual 312, 3) := by decide +kernel
theorem dX9_bestKeep_40 : decode cX9_bestKeep 40 = .ok (.aload_n 0, 1) := by decide +kernel
theorem dX9_bestKeep_41 : decode cX9_bestKeep 41 = .ok (.getfield 24, 3) := by decide +kernel
theorem dX9_bestKeep_44 : decode cX9_bestKeep 44 = .ok (.getfield 66, 3) := by decide +kernel
theorem dX9_bestKeep_47 : decode cX9_bestKeep 47 = .ok (.iload 5, 2) := by decide +kernel
theorem dX9_bestKeep_49 : decode cX9_bestKeep 49 = .ok (.putfield 164, 3) := by decide +kernel
theorem dX9_bestKeep_52 : decode cX9_bestKeep 52 = .ok (.aload_n 0, 1) := by decide +kernel
theorem dX9_bestKeep_53 : decode cX9_bestKeep 53 = .ok (.iload_n 1, 1) := by decide +kernel
theorem dX9_bestKeep_54 : decode cX9_bestKeep 54 = .ok (.iload_n 2, 1) := by decide +kernel
theorem dX9_bestKeep_55 : decode cX9_bestKeep 55 = .ok (.invokevirtual 315, 3) := by decide +kernel
theorem dX9_bestKeep_58 : decode cX9_bestKeep 58 = .ok (.istore 6, 2) := by decide +kernel
theorem dX9_bestKeep_60 : decode cX9_bestKeep 60 = .ok (.iload 5, 2) := by decide +kernel
theorem dX9_bestKeep_62 : decode cX9_bestKeep 62 = .ok (.ifCond .eq 10, 3) := by decide +kernel
theorem dX9_bestKeep_65 : decode cX9_bestKeep 65 = .ok (.iload 6, 2) := by decide +kernel
theorem dX9_bestKeep_67 : decode cX9_bestKeep 67 = .ok (.iload 4, 2) := by decide +kernel
theorem dX9_bestKeep_69 : decode cX9_bestKeep 69 = .ok (.if_icmp .ge 10, 3) := by decide +kernel
theorem dX9_bestKeep_72 : decode cX9_bestKeep 72 = .ok (.iload 5, 2) := by decide +kernel
theorem dX9_bestKeep_74 : decode cX9_bestKeep 74 = .ok (.istore_n 3, 1) := by decide +kernel
theorem dX9_bestKeep_75 : decode cX9_bestKeep 75 = .ok (.iload 6, 2) := by decide +kernel
theorem dX9_bestKeep_77 : decode cX9_bestKeep 77 = .ok (.istore 4, 2) := by decide +kernel
theorem dX9_bestKeep_79 : decode cX9_bestKeep 79 = .ok (.iinc 5 1, 3) := by decide +kernel
theorem dX9_bestKeep_82 : decode cX9_bestKeep 82 = .ok (.goto (-59), 3) := by decide +kernel
theorem dX9_bestKeep_85 : decode cX9_bestKeep 85 = .ok (.iload_n 3, 1) := by decide +kernel
theorem dX9_bestKeep_86 : decode cX9_bestKeep 86 = .ok (.ireturn, 1) := by decide +kernel
theorem dX9_lateBehindRun_0 : decode cX9_lateBehindRun 0 = .ok (.aload_n 0, 1) := by decide +kernel
theorem dX9_lateBehindRun_1 : decode cX9_lateBehindRun 1 = .ok (.getfield 24, 3) := by decide +kernel
theorem dX9_lateBehindRun_4 : decode cX9_lateBehindRun 4 = .ok (.iload_n 1, 1) := by decide +kernel
theorem dX9_lateBehindRun_5 : decode cX9_lateBehindRun 5 = .ok (.iload_n 2, 1) := by decide +kernel
theorem dX9_lateBehindRun_6 : decode cX9_lateBehindRun 6 = .ok (.invokevirtual 118, 3) := by decide +kernel
theorem dX9_lateBehindRun_9 : decode cX9_lateBehindRun 9 = .ok (.pop, 1) := by decide +kernel
theorem dX9_lateBehindRun_10 : decode cX9_lateBehindRun 10 = .ok (.aload_n 0, 1) := by decide +kernel
theorem dX9_lateBehindRun_11 : decode cX9_lateBehindRun 11 = .ok (.getfield 24, 3) := by decide +kernel
theorem dX9_lateBehindRun_14 : decode cX9_lateBehindRun 14 = .ok (.invokevirtual 324, 3) := by decide +kernel
theorem dX9_lateBehindRun_17 : decode cX9_lateBehindRun 17 = .ok (.ireturn, 1) := by decide +kernel
theorem dX9_quiet_0 : decode cX9_quiet 0 = .ok (.aload_n 0, 1) := by decide +kernel
theorem dX9_quiet_1 : decode cX9_quiet 1 = .ok (.getfield 24, 3) := by decide +kernel
theorem dX9_quiet_4 : decode cX9_quiet 4 = .ok (.aload_n 0, 1) := by decide +kernel
theorem dX9_quiet_5 : decode cX9_quiet 5 = .ok (.getfield 20, 3) := by decide +kernel
theorem dX9_quiet_8 : decode cX9_quiet 8 = .ok (.invokevirtual 312, 3) := by decide +kernel
theorem dX9_quiet_11 : decode cX9_quiet 11 = .ok (.aload_n 0, 1) := by decide +kernel
theorem dX9_quiet_12 : decode cX9_quiet 12 = .ok (.getfield 24, 3) := by decide +kernel
theorem dX9_quiet_15 : decode cX9_quiet 15 = .ok (.invokevirtual 328, 3) := by decide +kernel
theorem dX9_quiet_18 : decode cX9_quiet 18 = .ok (.ireturn, 1) := by decide +kernel
theorem dX9_spell_0 : decode cX9_spell 0 = .ok (.iload_n 1, 1) := by decide +kernel
theorem dX9_spell_1 : decode cX9_spell 1 = .ok (.iconst (-1), 1) := by decide +kernel
theorem dX9_spell_2 : decode cX9_spell 2 = .ok (.if_icmp .ge 5, 3) := by decide +kernel
theorem dX9_spell_5 : decode cX9_spell 5 = .ok (.iconst (-1), 1) := by decide +kernel
theorem dX9_spell_6 : decode cX9_spell 6 = .ok (.ireturn, 1) := by decide +kernel
theorem dX9_spell_7 : decode cX9_spell 7 = .ok (.aload_n 0, 1) := by decide +kernel
theorem dX9_spell_8 : decode cX9_spell 8 = .ok (.getfield 44, 3) := by decide +kernel
theorem dX9_spell_11 : decode cX9_spell 11 = .ok (.aload_n 0, 1) := by decide +kernel
theorem dX9_spell_12 : decode cX9_spell 12 = .ok (.getfield 20, 3) := by decide +kernel
theorem dX9_spell_15 : decode cX9_spell 15 = .ok (.getfield 66, 3) := by decide +kernel
theorem dX9_spell_18 : decode cX9_spell 18 = .ok (.invokevirtual 331, 3) := by decide +kernel
theorem dX9_spell_21 : decode cX9_spell 21 = .ok (.iload_n 1, 1) := by decide +kernel
theorem dX9_spell_22 : decode cX9_spell 22 = .ok (.iconst (-1), 1) := by decide +kernel
theorem dX9_spell_23 : decode cX9_spell 23 = .ok (.if_icmp .ne 11, 3) := by decide +kernel
theorem dX9_spell_26 : decode cX9_spell 26 = .ok (.aload_n 0, 1) := by decide +kernel
theorem dX9_spell_27 : decode cX9_spell 27 = .ok (.getfield 44, 3) := by decide +kernel
theorem dX9_spell_30 : decode cX9_spell 30 = .ok (.getfield 334, 3) := by decide +kernel
theorem dX9_spell_33 : decode cX9_spell 33 = .ok (.ireturn, 1) := by decide +kernel
theorem dX9_spell_34 : decode cX9_spell 34 = .ok (.iload_n 1, 1) := by decide +kernel
theorem dX9_spell_35 : decode cX9_spell 35 = .ok (.aload_n 0, 1) := by decide +kernel
theorem dX9_spell_36 : decode cX9_spell 36 = .ok (.getfield 44, 3) := by decide +kernel
theorem dX9_spell_39 : decode cX9_spell 39 = .ok (.getfield 334, 3) := by decide +kernel
theorem dX9_spell_42 : decode cX9_spell 42 = .ok (.if_icmp .ge 15, 3) := by decide +kernel
theorem dX9_spell_45 : decode cX9_spell 45 = .ok (.aload_n 0, 1) := by decide +kernel
theorem dX9_spell_46 : decode cX9_spell 46 = .ok (.getfield 44, 3) := by decide +kernel
theorem dX9_spell_49 : decode cX9_spell 49 = .ok (.getfield 337, 3) := by decide +kernel
theorem dX9_spell_52 : decode cX9_spell 52 = .ok (.iload_n 1, 1) := by decide +kernel
theorem dX9_spell_53 : decode cX9_spell 53 = .ok (.baload, 1) := by decide +kernel
theorem dX9_spell_54 : decode cX9_spell 54 = .ok (.goto 5, 3) := by decide +kernel
theorem dX9_spell_57 : decode cX9_spell 57 = .ok (.bipush (-2), 2) := by decide +kernel
theorem dX9_spell_59 : decode cX9_spell 59 = .ok (.ireturn, 1) := by decide +kernel
theorem dX9_count_0 : decode cX9_count 0 = .ok (.iload_n 1, 1) := by decide +kernel
theorem dX9_count_1 : decode cX9_count 1 = .ok (.tableswitch 159 0 9 #[55, 66, 77, 88, 99, 110, 118, 123, 137, 151], 55) := by decide +kernel
theorem dX9_count_56 : decode cX9_count 56 = .ok (.aload_n 0, 1) := by decide +kernel
theorem dX9_count_57 : decode cX9_count 57 = .ok (.getfield 20, 3) := by decide +kernel
theorem dX9_count_60 : decode cX9_count 60 = .ok (.getfield 66, 3) := by decide +kernel
theorem dX9_count_63 : decode cX9_count 63 = .ok (.getfield 86, 3) := by decide +kernel
theorem dX9_count_66 : decode cX9_count 66 = .ok (.ireturn, 1) := by decide +kernel
theorem dX9_count_67 : decode cX9_count 67 = .ok (.aload_n 0, 1) := by decide +kernel
theorem dX9_count_68 : decode cX9_count 68 = .ok (.getfield 20, 3) := by decide +kernel
theorem dX9_count_71 : decode cX9_count 71 = .ok (.getfield 66, 3) := by decide +kernel
theorem dX9_count_74 : decode cX9_count 74 = .ok (.getfield 83, 3) := by decide +kernel
theorem dX9_count_77 : decode cX9_count 77 = .ok (.ireturn, 1) := by decide +kernel
theorem dX9_count_78 : decode cX9_count 78 = .ok (.aload_n 0, 1) := by decide +kernel
theorem dX9_count_79 : decode cX9_count 79 = .ok (.getfield 20, 3) := by decide +kernel
theorem dX9_count_82 : decode cX9_count 82 = .ok (.getfield 66, 3) := by decide +kernel
theorem dX9_count_85 : decode cX9_count 85 = .ok (.getfield 158, 3) := by decide +kernel
theorem dX9_count_88 : decode cX9_count 88 = .ok (.ireturn, 1) := by decide +kernel
theorem dX9_count_89 : decode cX9_count 89 = .ok (.aload_n 0, 1) := by decide +kernel
theorem dX9_count_90 : decode cX9_count 90 = .ok (.getfield 20, 3) := by decide +kernel
theorem dX9_count_93 : decode cX9_count 93 = .ok (.getfield 66, 3) := by decide +kernel
theorem dX9_count_96 : decode cX9_count 96 = .ok (.getfield 164, 3) := by decide +kernel
theorem dX9_count_99 : decode cX9_count 99 = .ok (.ireturn, 1) := by decide +kernel
theorem dX9_count_100 : decode cX9_count 100 = .ok (.aload_n 0, 1) := by decide +kernel
theorem dX9_count_101 : decode cX9_count 101 = .ok (.getfield 20, 3) := by decide +kernel
theorem dX9_count_104 : decode cX9_count 104 = .ok (.getfield 66, 3) := by decide +kernel
theorem dX9_count_107 : decode cX9_count 107 = .ok (.getfield 167, 3) := by decide +kernel
theorem dX9_count_110 : decode cX9_count 110 = .ok (.ireturn, 1) := by decide +kernel
theorem dX9_count_111 : decode cX9_count 111 = .ok (.aload_n 0, 1) := by decide +kernel
theorem dX9_count_112 : decode cX9_count 112 = .ok (.getfield 30, 3) := by decide +kernel
theorem dX9_count_115 : decode cX9_count 115 = .ok (.getfield 174, 3) := by decide +kernel
theorem dX9_count_118 : decode cX9_count 118 = .ok (.ireturn, 1) := by decide +kernel
theorem dX9_count_119 : decode cX9_count 119 = .ok (.aload_n 0, 1) := by decide +kernel
theorem dX9_count_120 : decode cX9_count 120 = .ok (.getfield 13, 3) := by decide +kernel
theorem dX9_count_123 : decode cX9_count 123 = .ok (.ireturn, 1) := by decide +kernel
theorem dX9_count_124 : decode cX9_count 124 = .ok (.aload_n 0, 1) := by decide +kernel
theorem dX9_count_125 : decode cX9_count 125 = .ok (.getfield 20, 3) := by decide +kernel
theorem dX9_count_128 : decode cX9_count 128 = .ok (.getfield 66, 3) := by decide +kernel
theorem dX9_count_131 : decode cX9_count 131 = .ok (.getfield 205, 3) := by decide +kernel
theorem dX9_count_134 : decode cX9_count 134 = .ok (.invokestatic 340, 3) := by decide +kernel
theorem dX9_count_137 : decode cX9_count 137 = .ok (.ireturn, 1) := by decide +kernel
theorem dX9_count_138 : decode cX9_count 138 = .ok (.aload_n 0, 1) := by decide +kernel
theorem dX9_count_139 : decode cX9_count 139 = .ok (.getfield 20, 3) := by decide +kernel
theorem dX9_count_142 : decode cX9_count 142 = .ok (.getfield 66, 3) := by decide +kernel
theorem dX9_count_145 : decode cX9_count 145 = .ok (.getfield 121, 3) := by decide +kernel
theorem dX9_count_148 : decode cX9_count 148 = .ok (.invokestatic 340, 3) := by decide +kernel
theorem dX9_count_151 : decode cX9_count 151 = .ok (.ireturn, 1) := by decide +kernel
theorem dX9_count_152 : decode cX9_count 152 = .ok (.aload_n 0, 1) := by decide +kernel
theorem dX9_count_153 : decode cX9_count 153 = .ok (.getfield 20, 3) := by decide +kernel
theorem dX9_count_156 : decode cX9_count 156 = .ok (.getfield 344, 3) := by decide +kernel
theorem dX9_count_159 : decode cX9_count 159 = .ok (.ireturn, 1) := by decide +kernel
theorem dX9_count_160 : decode cX9_count 160 = .ok (.iconst (-1), 1) := by decide +kernel
theorem dX9_count_161 : decode cX9_count 161 = .ok (.ireturn, 1) := by decide +kernel
theorem dX9_sum_0 : decode cX9_sum 0 = .ok (.iconst 0, 1) := by decide +kernel
theorem dX9_sum_1 : decode cX9_sum 1 = .ok (.istore_n 1, 1) := by decide +kernel
theorem dX9_sum_2 : decode cX9_sum 2 = .ok (.iconst 0, 1) := by decide +kernel
theorem dX9_sum_3 : decode cX9_sum 3 = .ok (.istore_n 2, 1) := by decide +kernel
theorem dX9_sum_4 : decode cX9_sum 4 = .ok (.iload_n 2, 1) := by decide +kernel
theorem dX9_sum_5 : decode cX9_sum 5 = .ok (.aload_n 0, 1) := by decide +kernel
theorem dX9_sum_6 : decode cX9_sum 6 = .ok (.arraylength, 1) := by decide +kernel
theorem dX9_sum_7 : decode cX9_sum 7 = .ok (.if_icmp .ge 15, 3) := by decide +kernel
theorem dX9_sum_10 : decode cX9_sum 10 = .ok (.iload_n 1, 1) := by decide +kernel
theorem dX9_sum_11 : decode cX9_sum 11 = .ok (.aload_n 0, 1) := by decide +kernel
theorem dX9_sum_12 : decode cX9_sum 12 = .ok (.iload_n 2, 1) := by decide +kernel
theorem dX9_sum_13 : decode cX9_sum 13 = .ok (.iaload, 1) := by decide +kernel
theorem dX9_sum_14 : decode cX9_sum 14 = .ok (.iadd, 1) := by decide +kernel
theorem dX9_sum_15 : decode cX9_sum 15 = .ok (.istore_n 1, 1) := by decide +kernel
theorem dX9_sum_16 : decode cX9_sum 16 = .ok (.iinc 2 1, 3) := by decide +kernel
theorem dX9_sum_19 : decode cX9_sum 19 = .ok (.goto (-15), 3) := by decide +kernel
theorem dX9_sum_22 : decode cX9_sum 22 = .ok (.iload_n 1, 1) := by decide +kernel
theorem dX9_sum_23 : decode cX9_sum 23 = .ok (.ireturn, 1) := by decide +kernel
theorem dX9_placeOf_0 : decode cX9_placeOf 0 = .ok (.iload_n 0, 1) := by decide +kernel
theorem dX9_placeOf_1 : decode cX9_placeOf 1 = .ok (.iconst 4, 1) := by decide +kernel
theorem dX9_placeOf_2 : decode cX9_placeOf 2 = .ok (.imul, 1) := by decide +kernel
theorem dX9_placeOf_3 : decode cX9_placeOf 3 = .ok (.iload_n 1, 1) := by decide +kernel
theorem dX9_placeOf_4 : decode cX9_placeOf 4 = .ok (.iadd, 1) := by decide +kernel
theorem dX9_placeOf_5 : decode cX9_placeOf 5 = .ok (.ireturn, 1) := by decide +kernel
theorem dX9_baseOf_0 : decode cX9_baseOf 0 = .ok (.iload_n 0, 1) := by decide +kernel
theorem dX9_baseOf_1 : decode cX9_baseOf 1 = .ok (.iconst 4, 1) := by decide +kernel
theorem dX9_baseOf_2 : decode cX9_baseOf 2 = .ok (.idiv, 1) := by decide +kernel
theorem dX9_baseOf_3 : decode cX9_baseOf 3 = .ok (.ireturn, 1) := by decide +kernel
theorem dX9_partOf_0 : decode cX9_partOf 0 = .ok (.iload_n 0, 1) := by decide +kernel
theorem dX9_partOf_1 : decode cX9_partOf 1 = .ok (.iconst 3, 1) := by decide +kernel
theorem dX9_partOf_2 : decode cX9_partOf 2 = .ok (.iand, 1) := by decide +kernel
theorem dX9_partOf_3 : decode cX9_partOf 3 = .ok (.ireturn, 1) := by decide +kernel
theorem dJ9_max_7cf53_0 : decode cJ9_max_7cf53 0 = .ok (.iload_n 0, 1) := by decide +kernel
theorem dJ9_max_7cf53_1 : decode cJ9_max_7cf53 1 = .ok (.iload_n 1, 1) := by decide +kernel
theorem dJ9_max_7cf53_2 : decode cJ9_max_7cf53 2 = .ok (.if_icmp .lt 7, 3) := by decide +kernel
theorem dJ9_max_7cf53_5 : decode cJ9_max_7cf53 5 = .ok (.iload_n 0, 1) := by decide +kernel
theorem dJ9_max_7cf53_6 : decode cJ9_max_7cf53 6 = .ok (.goto 4, 3) := by decide +kernel
theorem dJ9_max_7cf53_9 : decode cJ9_max_7cf53 9 = .ok (.iload_n 1, 1) := by decide +kernel
theorem dJ9_max_7cf53_10 : decode cJ9_max_7cf53 10 = .ok (.ireturn, 1) := by decide +kernel
theorem dJ9_min_7cf53_0 : decode cJ9_min_7cf53 0 = .ok (.iload_n 0, 1) := by decide +kernel
theorem dJ9_min_7cf53_1 : decode cJ9_min_7cf53 1 = .ok (.iload_n 1, 1) := by decide +kernel
theorem dJ9_min_7cf53_2 : decode cJ9_min_7cf53 2 = .ok (.if_icmp .gt 7, 3) := by decide +kernel
theorem dJ9_min_7cf53_5 : decode cJ9_min_7cf53 5 = .ok (.iload_n 0, 1) := by decide +kernel
theorem dJ9_min_7cf53_6 : decode cJ9_min_7cf53 6 = .ok (.goto 4, 3) := by decide +kernel
theorem dJ9_min_7cf53_9 : decode cJ9_min_7cf53 9 = .ok (.iload_n 1, 1) := by decide +kernel
theorem dJ9_min_7cf53_10 : decode cJ9_min_7cf53 10 = .ok (.ireturn, 1) := by decide +kernel
theorem dJ0_length_8abf5_0 : decode cJ0_length_8abf5 0 = .ok (.aload_n 0, 1) := by decide +kernel
theorem dJ0_length_8abf5_1 : decode cJ0_length_8abf5 1 = .ok (.getfield 9, 3) := by decide +kernel
theorem dJ0_length_8abf5_4 : decode cJ0_length_8abf5 4 = .ok (.arraylength, 1) := by decide +kernel
theorem dJ0_length_8abf5_5 : decode cJ0_length_8abf5 5 = .ok (.aload_n 0, 1) := by decide +kernel
theorem dJ0_length_8abf5_6 : decode cJ0_length_8abf5 6 = .ok (.invokevirtual 335, 3) := by decide +kernel
theorem dJ0_length_8abf5_9 : decode cJ0_length_8abf5 9 = .ok (.ishr, 1) := by decide +kernel
theorem dJ0_length_8abf5_10 : decode cJ0_length_8abf5 10 = .ok (.ireturn, 1) := by decide +kernel
theorem dJ0_charAt_5068e_0 : decode cJ0_charAt_5068e 0 = .ok (.aload_n 0, 1) := by decide +kernel
theorem dJ0_charAt_5068e_1 : decode cJ0_charAt_5068e 1 = .ok (.invokevirtual 492, 3) := by decide +kernel
theorem dJ0_charAt_5068e_4 : decode cJ0_charAt_5068e 4 = .ok (.ifCond .eq 12, 3) := by decide +kernel
theorem dJ0_charAt_5068e_7 : decode cJ0_charAt_5068e 7 = .ok (.aload_n 0, 1) := by decide +kernel
theorem dJ0_charAt_5068e_8 : decode cJ0_charAt_5068e 8 = .ok (.getfield 9, 3) := by decide +kernel
theorem dJ0_charAt_5068e_11 : decode cJ0_charAt_5068e 11 = .ok (.iload_n 1, 1) := by decide +kernel
theorem dJ0_charAt_5068e_12 : decode cJ0_charAt_5068e 12 = .ok (.invokestatic 495, 3) := by decide +kernel
theorem dJ0_charAt_5068e_15 : decode cJ0_charAt_5068e 15 = .ok (.ireturn, 1) := by decide +kernel
theorem dJ0_charAt_5068e_16 : decode cJ0_charAt_5068e 16 = .ok (.aload_n 0, 1) := by decide +kernel
theorem dJ0_charAt_5068e_17 : decode cJ0_charAt_5068e 17 = .ok (.getfield 9, 3) := by decide +kernel
theorem dJ0_charAt_5068e_20 : decode cJ0_charAt_5068e 20 = .ok (.iload_n 1, 1) := by decide +kernel
theorem dJ0_charAt_5068e_21 : decode cJ0_charAt_5068e 21 = .ok (.invokestatic 498, 3) := by decide +kernel
theorem dJ0_charAt_5068e_24 : decode cJ0_charAt_5068e 24 = .ok (.ireturn, 1) := by decide +kernel
theorem dJ0_coder_7d493_0 : decode cJ0_coder_7d493 0 = .ok (.getstatic 38, 3) := by decide +kernel
theorem dJ0_coder_7d493_3 : decode cJ0_coder_7d493 3 = .ok (.ifCond .eq 10, 3) := by decide +kernel
theorem dJ0_coder_7d493_6 : decode cJ0_coder_7d493 6 = .ok (.aload_n 0, 1) := by decide +kernel
theorem dJ0_coder_7d493_7 : decode cJ0_coder_7d493 7 = .ok (.getfield 15, 3) := by decide +kernel
theorem dJ0_coder_7d493_10 : decode cJ0_coder_7d493 10 = .ok (.goto 4, 3) := by decide +kernel
theorem dJ0_coder_7d493_13 : decode cJ0_coder_7d493 13 = .ok (.iconst 1, 1) := by decide +kernel
theorem dJ0_coder_7d493_14 : decode cJ0_coder_7d493 14 = .ok (.ireturn, 1) := by decide +kernel
theorem dJ0_isLatin1_aae02_0 : decode cJ0_isLatin1_aae02 0 = .ok (.getstatic 38, 3) := by decide +kernel
theorem dJ0_isLatin1_aae02_3 : decode cJ0_isLatin1_aae02 3 = .ok (.ifCond .eq 14, 3) := by decide +kernel
theorem dJ0_isLatin1_aae02_6 : decode cJ0_isLatin1_aae02 6 = .ok (.aload_n 0, 1) := by decide +kernel
theorem dJ0_isLatin1_aae02_7 : decode cJ0_isLatin1_aae02 7 = .ok (.getfield 15, 3) := by decide +kernel
theorem dJ0_isLatin1_aae02_10 : decode cJ0_isLatin1_aae02 10 = .ok (.ifCond .ne 7, 3) := by decide +kernel
theorem dJ0_isLatin1_aae02_13 : decode cJ0_isLatin1_aae02 13 = .ok (.iconst 1, 1) := by decide +kernel
theorem dJ0_isLatin1_aae02_14 : decode cJ0_isLatin1_aae02 14 = .ok (.goto 4, 3) := by decide +kernel
theorem dJ0_isLatin1_aae02_17 : decode cJ0_isLatin1_aae02 17 = .ok (.iconst 0, 1) := by decide +kernel
theorem dJ0_isLatin1_aae02_18 : decode cJ0_isLatin1_aae02 18 = .ok (.ireturn, 1) := by decide +kernel
theorem dJ0_checkIndex_df160_0 : decode cJ0_checkIndex_df160 0 = .ok (.iload_n 0, 1) := by decide +kernel
theorem dJ0_checkIndex_df160_1 : decode cJ0_checkIndex_df160 1 = .ok (.iload_n 1, 1) := by decide +kernel
theorem dJ0_checkIndex_df160_2 : decode cJ0_checkIndex_df160 2 = .ok (.getstatic 1053, 3) := by decide +kernel
theorem dJ0_checkIndex_df160_5 : decode cJ0_checkIndex_df160 5 = .ok (.invokestatic 1059, 3) := by decide +kernel
theorem dJ0_checkIndex_df160_8 : decode cJ0_checkIndex_df160 8 = .ok (.pop, 1) := by decide +kernel
theorem dJ0_checkIndex_df160_9 : decode cJ0_checkIndex_df160 9 = .ok (.return_, 1) := by decide +kernel
theorem dJ1_charAt_3b067_0 : decode cJ1_charAt_3b067 0 = .ok (.iload_n 1, 1) := by decide +kernel
theorem dJ1_charAt_3b067_1 : decode cJ1_charAt_3b067 1 = .ok (.aload_n 0, 1) := by decide +kernel
theorem dJ1_charAt_3b067_2 : decode cJ1_charAt_3b067 2 = .ok (.arraylength, 1) := by decide +kernel
theorem dJ1_charAt_3b067_3 : decode cJ1_charAt_3b067 3 = .ok (.invokestatic 9, 3) := by decide +kernel
theorem dJ1_charAt_3b067_6 : decode cJ1_charAt_3b067 6 = .ok (.aload_n 0, 1) := by decide +kernel
theorem dJ1_charAt_3b067_7 : decode cJ1_charAt_3b067 7 = .ok (.iload_n 1, 1) := by decide +kernel
theorem dJ1_charAt_3b067_8 : decode cJ1_charAt_3b067 8 = .ok (.baload, 1) := by decide +kernel
theorem dJ1_charAt_3b067_9 : decode cJ1_charAt_3b067 9 = .ok (.sipush 255, 3) := by decide +kernel
theorem dJ1_charAt_3b067_12 : decode cJ1_charAt_3b067 12 = .ok (.iand, 1) := by decide +kernel
theorem dJ1_charAt_3b067_13 : decode cJ1_charAt_3b067 13 = .ok (.i2c, 1) := by decide +kernel
theorem dJ1_charAt_3b067_14 : decode cJ1_charAt_3b067 14 = .ok (.ireturn, 1) := by decide +kernel
theorem dJ2_getChar_3b067_0 : decode cJ2_getChar_3b067 0 = .ok (.getstatic 44, 3) := by decide +kernel
theorem dJ2_getChar_3b067_3 : decode cJ2_getChar_3b067 3 = .ok (.ifCond .ne 25, 3) := by decide +kernel
theorem dJ2_getChar_3b067_6 : decode cJ2_getChar_3b067 6 = .ok (.iload_n 1, 1) := by decide +kernel
theorem dJ2_getChar_3b067_7 : decode cJ2_getChar_3b067 7 = .ok (.ifCond .lt 11, 3) := by decide +kernel
theorem dJ2_getChar_3b067_10 : decode cJ2_getChar_3b067 10 = .ok (.iload_n 1, 1) := by decide +kernel
theorem dJ2_getChar_3b067_11 : decode cJ2_getChar_3b067 11 = .ok (.aload_n 0, 1) := by decide +kernel
theorem dJ2_getChar_3b067_12 : decode cJ2_getChar_3b067 12 = .ok (.invokestatic 48, 3) := by decide +kernel
theorem dJ2_getChar_3b067_15 : decode cJ2_getChar_3b067 15 = .ok (.if_icmp .lt 13, 3) := by decide +kernel
theorem dJ2_getChar_3b067_18 : decode cJ2_getChar_3b067 18 = .ok (.new 52, 3) := by decide +kernel
theorem dJ2_getChar_3b067_21 : decode cJ2_getChar_3b067 21 = .ok (.dup, 1) := by decide +kernel
theorem dJ2_getChar_3b067_22 : decode cJ2_getChar_3b067 22 = .ok (.ldc 54, 2) := by decide +kernel
theorem dJ2_getChar_3b067_24 : decode cJ2_getChar_3b067 24 = .ok (.invokespecial 56, 3) := by decide +kernel
theorem dJ2_getChar_3b067_27 : decode cJ2_getChar_3b067 27 = .ok (.athrow, 1) := by decide +kernel
theorem dJ2_getChar_3b067_28 : decode cJ2_getChar_3b067 28 = .ok (.iload_n 1, 1) := by decide +kernel
theorem dJ2_getChar_3b067_29 : decode cJ2_getChar_3b067 29 = .ok (.iconst 1, 1) := by decide +kernel
theorem dJ2_getChar_3b067_30 : decode cJ2_getChar_3b067 30 = .ok (.ishl, 1) := by decide +kernel
theorem dJ2_getChar_3b067_31 : decode cJ2_getChar_3b067 31 = .ok (.istore_n 1, 1) := by decide +kernel
theorem dJ2_getChar_3b067_32 : decode cJ2_getChar_3b067 32 = .ok (.aload_n 0, 1) := by decide +kernel
theorem dJ2_getChar_3b067_33 : decode cJ2_getChar_3b067 33 = .ok (.iload_n 1, 1) := by decide +kernel
theorem dJ2_getChar_3b067_34 : decode cJ2_getChar_3b067 34 = .ok (.iinc 1 1, 3) := by decide +kernel
theorem dJ2_getChar_3b067_37 : decode cJ2_getChar_3b067 37 = .ok (.baload, 1) := by decide +kernel
theorem dJ2_getChar_3b067_38 : decode cJ2_getChar_3b067 38 = .ok (.sipush 255, 3) := by decide +kernel
theorem dJ2_getChar_3b067_41 : decode cJ2_getChar_3b067 41 = .ok (.iand, 1) := by decide +kernel
theorem dJ2_getChar_3b067_42 : decode cJ2_getChar_3b067 42 = .ok (.getstatic 59, 3) := by decide +kernel
theorem dJ2_getChar_3b067_45 : decode cJ2_getChar_3b067 45 = .ok (.ishl, 1) := by decide +kernel
theorem dJ2_getChar_3b067_46 : decode cJ2_getChar_3b067 46 = .ok (.aload_n 0, 1) := by decide +kernel
theorem dJ2_getChar_3b067_47 : decode cJ2_getChar_3b067 47 = .ok (.iload_n 1, 1) := by decide +kernel
theorem dJ2_getChar_3b067_48 : decode cJ2_getChar_3b067 48 = .ok (.baload, 1) := by decide +kernel
theorem dJ2_getChar_3b067_49 : decode cJ2_getChar_3b067 49 = .ok (.sipush 255, 3) := by decide +kernel
theorem dJ2_getChar_3b067_52 : decode cJ2_getChar_3b067 52 = .ok (.iand, 1) := by decide +kernel
theorem dJ2_getChar_3b067_53 : decode cJ2_getChar_3b067 53 = .ok (.getstatic 63, 3) := by decide +kernel
theorem dJ2_getChar_3b067_56 : decode cJ2_getChar_3b067 56 = .ok (.ishl, 1) := by decide +kernel
theorem dJ2_getChar_3b067_57 : decode cJ2_getChar_3b067 57 = .ok (.ior, 1) := by decide +kernel
theorem dJ2_getChar_3b067_58 : decode cJ2_getChar_3b067 58 = .ok (.i2c, 1) := by decide +kernel
theorem dJ2_getChar_3b067_59 : decode cJ2_getChar_3b067 59 = .ok (.ireturn, 1) := by decide +kernel
theorem dJ2_length_9d52b_0 : decode cJ2_length_9d52b 0 = .ok (.aload_n 0, 1) := by decide +kernel
theorem dJ2_length_9d52b_1 : decode cJ2_length_9d52b 1 = .ok (.arraylength, 1) := by decide +kernel
theorem dJ2_length_9d52b_2 : decode cJ2_length_9d52b 2 = .ok (.iconst 1, 1) := by decide +kernel
theorem dJ2_length_9d52b_3 : decode cJ2_length_9d52b 3 = .ok (.ishr, 1) := by decide +kernel
theorem dJ2_length_9d52b_4 : decode cJ2_length_9d52b 4 = .ok (.ireturn, 1) := by decide +kernel
theorem dJ2_charAt_3b067_0 : decode cJ2_charAt_3b067 0 = .ok (.iload_n 1, 1) := by decide +kernel
theorem dJ2_charAt_3b067_1 : decode cJ2_charAt_3b067 1 = .ok (.aload_n 0, 1) := by decide +kernel
theorem dJ2_charAt_3b067_2 : decode cJ2_charAt_3b067 2 = .ok (.invokestatic 67, 3) := by decide +kernel
theorem dJ2_charAt_3b067_5 : decode cJ2_charAt_3b067 5 = .ok (.aload_n 0, 1) := by decide +kernel
theorem dJ2_charAt_3b067_6 : decode cJ2_charAt_3b067 6 = .ok (.iload_n 1, 1) := by decide +kernel
theorem dJ2_charAt_3b067_7 : decode cJ2_charAt_3b067 7 = .ok (.invokestatic 71, 3) := by decide +kernel
theorem dJ2_charAt_3b067_10 : decode cJ2_charAt_3b067 10 = .ok (.ireturn, 1) := by decide +kernel
theorem dJ2_checkIndex_2214a_0 : decode cJ2_checkIndex_2214a 0 = .ok (.iload_n 0, 1) := by decide +kernel
theorem dJ2_checkIndex_2214a_1 : decode cJ2_checkIndex_2214a 1 = .ok (.aload_n 1, 1) := by decide +kernel
theorem dJ2_checkIndex_2214a_2 : decode cJ2_checkIndex_2214a 2 = .ok (.invokestatic 48, 3) := by decide +kernel
theorem dJ2_checkIndex_2214a_5 : decode cJ2_checkIndex_2214a 5 = .ok (.invokestatic 414, 3) := by decide +kernel
theorem dJ2_checkIndex_2214a_8 : decode cJ2_checkIndex_2214a 8 = .ok (.return_, 1) := by decide +kernel
theorem dJ3_checkIndex_8e157_0 : decode cJ3_checkIndex_8e157 0 = .ok (.iload_n 0, 1) := by decide +kernel
theorem dJ3_checkIndex_8e157_1 : decode cJ3_checkIndex_8e157 1 = .ok (.ifCond .lt 8, 3) := by decide +kernel
theorem dJ3_checkIndex_8e157_4 : decode cJ3_checkIndex_8e157 4 = .ok (.iload_n 0, 1) := by decide +kernel
theorem dJ3_checkIndex_8e157_5 : decode cJ3_checkIndex_8e157 5 = .ok (.iload_n 1, 1) := by decide +kernel
theorem dJ3_checkIndex_8e157_6 : decode cJ3_checkIndex_8e157 6 = .ok (.if_icmp .lt 10, 3) := by decide +kernel
theorem dJ3_checkIndex_8e157_9 : decode cJ3_checkIndex_8e157 9 = .ok (.aload_n 2, 1) := by decide +kernel
theorem dJ3_checkIndex_8e157_10 : decode cJ3_checkIndex_8e157 10 = .ok (.iload_n 0, 1) := by decide +kernel
theorem dJ3_checkIndex_8e157_11 : decode cJ3_checkIndex_8e157 11 = .ok (.iload_n 1, 1) := by decide +kernel
theorem dJ3_checkIndex_8e157_12 : decode cJ3_checkIndex_8e157 12 = .ok (.invokestatic 95, 3) := by decide +kernel
theorem dJ3_checkIndex_8e157_15 : decode cJ3_checkIndex_8e157 15 = .ok (.athrow, 1) := by decide +kernel
theorem dJ3_checkIndex_8e157_16 : decode cJ3_checkIndex_8e157 16 = .ok (.iload_n 0, 1) := by decide +kernel
theorem dJ3_checkIndex_8e157_17 : decode cJ3_checkIndex_8e157 17 = .ok (.ireturn, 1) := by decide +kernel
