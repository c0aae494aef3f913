theorem dX0_init_0 : decode cX0_init 0 = .ok (.aload_n 0, 1) := by decide +kernel
theorem dX0_init_1 : decode cX0_init 1 = .ok (.invokespecial 3, 3) := by decide +kernel
theorem dX0_init_4 : decode cX0_init 4 = .ok (.aload_n 0, 1) := by decide +kernel
theorem dX0_init_5 : decode cX0_init 5 = .ok (.bipush 8, 2) := by decide +kernel
theorem dX0_init_7 : decode cX0_init 7 = .ok (.newarray .int, 2) := by decide +kernel
theorem dX0_init_9 : decode cX0_init 9 = .ok (.putfield 9, 3) := by decide +kernel
theorem dX0_init_12 : decode cX0_init 12 = .ok (.aload_n 0, 1) := by decide +kernel
theorem dX0_init_13 : decode cX0_init 13 = .ok (.aload_n 1, 1) := by decide +kernel
theorem dX0_init_14 : decode cX0_init 14 = .ok (.putfield 15, 3) := by decide +kernel
theorem dX0_init_17 : decode cX0_init 17 = .ok (.return_, 1) := by decide +kernel
theorem dX0_fits_0 : decode cX0_fits 0 = .ok (.iload_n 1, 1) := by decide +kernel
theorem dX0_fits_1 : decode cX0_fits 1 = .ok (.iconst 1, 1) := by decide +kernel
theorem dX0_fits_2 : decode cX0_fits 2 = .ok (.if_icmp .eq 19, 3) := by decide +kernel
theorem dX0_fits_5 : decode cX0_fits 5 = .ok (.iload_n 1, 1) := by decide +kernel
theorem dX0_fits_6 : decode cX0_fits 6 = .ok (.iconst 2, 1) := by decide +kernel
theorem dX0_fits_7 : decode cX0_fits 7 = .ok (.if_icmp .eq 14, 3) := by decide +kernel
theorem dX0_fits_10 : decode cX0_fits 10 = .ok (.iload_n 1, 1) := by decide +kernel
theorem dX0_fits_11 : decode cX0_fits 11 = .ok (.iconst 4, 1) := by decide +kernel
theorem dX0_fits_12 : decode cX0_fits 12 = .ok (.if_icmp .eq 9, 3) := by decide +kernel
theorem dX0_fits_15 : decode cX0_fits 15 = .ok (.iload_n 1, 1) := by decide +kernel
theorem dX0_fits_16 : decode cX0_fits 16 = .ok (.bipush 8, 2) := by decide +kernel
theorem dX0_fits_18 : decode cX0_fits 18 = .ok (.if_icmp .ne 7, 3) := by decide +kernel
theorem dX0_fits_21 : decode cX0_fits 21 = .ok (.iconst 1, 1) := by decide +kernel
theorem dX0_fits_22 : decode cX0_fits 22 = .ok (.goto 4, 3) := by decide +kernel
theorem dX0_fits_25 : decode cX0_fits 25 = .ok (.iconst 0, 1) := by decide +kernel
theorem dX0_fits_26 : decode cX0_fits 26 = .ok (.ireturn, 1) := by decide +kernel
theorem dX0_winners_0 : decode cX0_winners 0 = .ok (.iload_n 1, 1) := by decide +kernel
theorem dX0_winners_1 : decode cX0_winners 1 = .ok (.invokestatic 19, 3) := by decide +kernel
theorem dX0_winners_4 : decode cX0_winners 4 = .ok (.tableswitch 91 1 8 #[48, 50, 91, 79, 91, 91, 91, 85], 48) := by decide +kernel
theorem dX0_winners_52 : decode cX0_winners 52 = .ok (.iload_n 1, 1) := by decide +kernel
theorem dX0_winners_53 : decode cX0_winners 53 = .ok (.ireturn, 1) := by decide +kernel
theorem dX0_winners_54 : decode cX0_winners 54 = .ok (.aload_n 0, 1) := by decide +kernel
theorem dX0_winners_55 : decode cX0_winners 55 = .ok (.iload_n 1, 1) := by decide +kernel
theorem dX0_winners_56 : decode cX0_winners 56 = .ok (.iconst 0, 1) := by decide +kernel
theorem dX0_winners_57 : decode cX0_winners 57 = .ok (.invokevirtual 25, 3) := by decide +kernel
theorem dX0_winners_60 : decode cX0_winners 60 = .ok (.pop, 1) := by decide +kernel
theorem dX0_winners_61 : decode cX0_winners 61 = .ok (.iconst 1, 1) := by decide +kernel
theorem dX0_winners_62 : decode cX0_winners 62 = .ok (.aload_n 0, 1) := by decide +kernel
theorem dX0_winners_63 : decode cX0_winners 63 = .ok (.getfield 15, 3) := by decide +kernel
theorem dX0_winners_66 : decode cX0_winners 66 = .ok (.aload_n 0, 1) := by decide +kernel
theorem dX0_winners_67 : decode cX0_winners 67 = .ok (.getfield 9, 3) := by decide +kernel
theorem dX0_winners_70 : decode cX0_winners 70 = .ok (.iconst 0, 1) := by decide +kernel
theorem dX0_winners_71 : decode cX0_winners 71 = .ok (.iaload, 1) := by decide +kernel
theorem dX0_winners_72 : decode cX0_winners 72 = .ok (.aload_n 0, 1) := by decide +kernel
theorem dX0_winners_73 : decode cX0_winners 73 = .ok (.getfield 9, 3) := by decide +kernel
theorem dX0_winners_76 : decode cX0_winners 76 = .ok (.iconst 1, 1) := by decide +kernel
theorem dX0_winners_77 : decode cX0_winners 77 = .ok (.iaload, 1) := by decide +kernel
theorem dX0_winners_78 : decode cX0_winners 78 = .ok (.invokevirtual 29, 3) := by decide +kernel
theorem dX0_winners_81 : decode cX0_winners 81 = .ok (.ishl, 1) := by decide +kernel
theorem dX0_winners_82 : decode cX0_winners 82 = .ok (.ireturn, 1) := by decide +kernel
theorem dX0_winners_83 : decode cX0_winners 83 = .ok (.aload_n 0, 1) := by decide +kernel
theorem dX0_winners_84 : decode cX0_winners 84 = .ok (.iload_n 1, 1) := by decide +kernel
theorem dX0_winners_85 : decode cX0_winners 85 = .ok (.invokevirtual 34, 3) := by decide +kernel
theorem dX0_winners_88 : decode cX0_winners 88 = .ok (.ireturn, 1) := by decide +kernel
theorem dX0_winners_89 : decode cX0_winners 89 = .ok (.aload_n 0, 1) := by decide +kernel
theorem dX0_winners_90 : decode cX0_winners 90 = .ok (.iload_n 1, 1) := by decide +kernel
theorem dX0_winners_91 : decode cX0_winners 91 = .ok (.invokevirtual 37, 3) := by decide +kernel
theorem dX0_winners_94 : decode cX0_winners 94 = .ok (.ireturn, 1) := by decide +kernel
theorem dX0_winners_95 : decode cX0_winners 95 = .ok (.iconst 0, 1) := by decide +kernel
theorem dX0_winners_96 : decode cX0_winners 96 = .ok (.ireturn, 1) := by decide +kernel
theorem dX0_putIntoRow_0 : decode cX0_putIntoRow 0 = .ok (.iload_n 2, 1) := by decide +kernel
theorem dX0_putIntoRow_1 : decode cX0_putIntoRow 1 = .ok (.istore_n 3, 1) := by decide +kernel
theorem dX0_putIntoRow_2 : decode cX0_putIntoRow 2 = .ok (.iconst 0, 1) := by decide +kernel
theorem dX0_putIntoRow_3 : decode cX0_putIntoRow 3 = .ok (.istore 4, 2) := by decide +kernel
theorem dX0_putIntoRow_5 : decode cX0_putIntoRow 5 = .ok (.iload 4, 2) := by decide +kernel
theorem dX0_putIntoRow_7 : decode cX0_putIntoRow 7 = .ok (.aload_n 0, 1) := by decide +kernel
theorem dX0_putIntoRow_8 : decode cX0_putIntoRow 8 = .ok (.getfield 15, 3) := by decide +kernel
theorem dX0_putIntoRow_11 : decode cX0_putIntoRow 11 = .ok (.getfield 40, 3) := by decide +kernel
theorem dX0_putIntoRow_14 : decode cX0_putIntoRow 14 = .ok (.if_icmp .ge 36, 3) := by decide +kernel
theorem dX0_putIntoRow_17 : decode cX0_putIntoRow 17 = .ok (.iload_n 1, 1) := by decide +kernel
theorem dX0_putIntoRow_18 : decode cX0_putIntoRow 18 = .ok (.iload 4, 2) := by decide +kernel
theorem dX0_putIntoRow_20 : decode cX0_putIntoRow 20 = .ok (.invokestatic 44, 3) := by decide +kernel
theorem dX0_putIntoRow_23 : decode cX0_putIntoRow 23 = .ok (.iconst 1, 1) := by decide +kernel
theorem dX0_putIntoRow_24 : decode cX0_putIntoRow 24 = .ok (.if_icmp .ne 20, 3) := by decide +kernel
theorem dX0_putIntoRow_27 : decode cX0_putIntoRow 27 = .ok (.iload_n 3, 1) := by decide +kernel
theorem dX0_putIntoRow_28 : decode cX0_putIntoRow 28 = .ok (.bipush 8, 2) := by decide +kernel
theorem dX0_putIntoRow_30 : decode cX0_putIntoRow 30 = .ok (.if_icmp .ge 14, 3) := by decide +kernel
theorem dX0_putIntoRow_33 : decode cX0_putIntoRow 33 = .ok (.aload_n 0, 1) := by decide +kernel
theorem dX0_putIntoRow_34 : decode cX0_putIntoRow 34 = .ok (.getfield 9, 3) := by decide +kernel
theorem dX0_putIntoRow_37 : decode cX0_putIntoRow 37 = .ok (.iload_n 3, 1) := by decide +kernel
theorem dX0_putIntoRow_38 : decode cX0_putIntoRow 38 = .ok (.iload 4, 2) := by decide +kernel
theorem dX0_putIntoRow_40 : decode cX0_putIntoRow 40 = .ok (.iastore, 1) := by decide +kernel
theorem dX0_putIntoRow_41 : decode cX0_putIntoRow 41 = .ok (.iinc 3 1, 3) := by decide +kernel
theorem dX0_putIntoRow_44 : decode cX0_putIntoRow 44 = .ok (.iinc 4 1, 3) := by decide +kernel
theorem dX0_putIntoRow_47 : decode cX0_putIntoRow 47 = .ok (.goto (-42), 3) := by decide +kernel
theorem dX0_putIntoRow_50 : decode cX0_putIntoRow 50 = .ok (.iload_n 3, 1) := by decide +kernel
theorem dX0_putIntoRow_51 : decode cX0_putIntoRow 51 = .ok (.ireturn, 1) := by decide +kernel
theorem dX0_winnerByWay_0 : decode cX0_winnerByWay 0 = .ok (.iload_n 1, 1) := by decide +kernel
theorem dX0_winnerByWay_1 : decode cX0_winnerByWay 1 = .ok (.ifCond .ne 7, 3) := by decide +kernel
theorem dX0_winnerByWay_4 : decode cX0_winnerByWay 4 = .ok (.iconst 2, 1) := by decide +kernel
theorem dX0_winnerByWay_5 : decode cX0_winnerByWay 5 = .ok (.goto 4, 3) := by decide +kernel
theorem dX0_winnerByWay_8 : decode cX0_winnerByWay 8 = .ok (.iconst 1, 1) := by decide +kernel
theorem dX0_winnerByWay_9 : decode cX0_winnerByWay 9 = .ok (.istore_n 2, 1) := by decide +kernel
theorem dX0_winnerByWay_10 : decode cX0_winnerByWay 10 = .ok (.iload_n 1, 1) := by decide +kernel
theorem dX0_winnerByWay_11 : decode cX0_winnerByWay 11 = .ok (.iconst 2, 1) := by decide +kernel
theorem dX0_winnerByWay_12 : decode cX0_winnerByWay 12 = .ok (.if_icmp .ne 7, 3) := by decide +kernel
theorem dX0_winnerByWay_15 : decode cX0_winnerByWay 15 = .ok (.iconst 2, 1) := by decide +kernel
theorem dX0_winnerByWay_16 : decode cX0_winnerByWay 16 = .ok (.goto 4, 3) := by decide +kernel
theorem dX0_winnerByWay_19 : decode cX0_winnerByWay 19 = .ok (.iconst 3, 1) := by decide +kernel
theorem dX0_winnerByWay_20 : decode cX0_winnerByWay 20 = .ok (.istore_n 3, 1) := by decide +kernel
theorem dX0_winnerByWay_21 : decode cX0_winnerByWay 21 = .ok (.aload_n 0, 1) := by decide +kernel
theorem dX0_winnerByWay_22 : decode cX0_winnerByWay 22 = .ok (.getfield 15, 3) := by decide +kernel
theorem dX0_winnerByWay_25 : decode cX0_winnerByWay 25 = .ok (.aload_n 0, 1) := by decide +kernel
theorem dX0_winnerByWay_26 : decode cX0_winnerByWay 26 = .ok (.getfield 15, 3) := by decide +kernel
theorem dX0_winnerByWay_29 : decode cX0_winnerByWay 29 = .ok (.aload_n 0, 1) := by decide +kernel
theorem dX0_winnerByWay_30 : decode cX0_winnerByWay 30 = .ok (.getfield 9, 3) := by decide +kernel
theorem dX0_winnerByWay_33 : decode cX0_winnerByWay 33 = .ok (.iconst 0, 1) := by decide +kernel
theorem dX0_winnerByWay_34 : decode cX0_winnerByWay 34 = .ok (.iaload, 1) := by decide +kernel
theorem dX0_winnerByWay_35 : decode cX0_winnerByWay 35 = .ok (.aload_n 0, 1) := by decide +kernel
theorem dX0_winnerByWay_36 : decode cX0_winnerByWay 36 = .ok (.getfield 9, 3) := by decide +kernel
theorem dX0_winnerByWay_39 : decode cX0_winnerByWay 39 = .ok (.iload_n 1, 1) := by decide +kernel
theorem dX0_winnerByWay_40 : decode cX0_winnerByWay 40 = .ok (.iconst 1, 1) := by decide +kernel
theorem dX0_winnerByWay_41 : decode cX0_winnerByWay 41 = .ok (.iadd, 1) := by decide +kernel
theorem dX0_winnerByWay_42 : decode cX0_winnerByWay 42 = .ok (.iaload, 1) := by decide +kernel
theorem dX0_winnerByWay_43 : decode cX0_winnerByWay 43 = .ok (.invokevirtual 29, 3) := by decide +kernel
theorem dX0_winnerByWay_46 : decode cX0_winnerByWay 46 = .ok (.aload_n 0, 1) := by decide +kernel
theorem dX0_winnerByWay_47 : decode cX0_winnerByWay 47 = .ok (.getfield 15, 3) := by decide +kernel
theorem dX0_winnerByWay_50 : decode cX0_winnerByWay 50 = .ok (.aload_n 0, 1) := by decide +kernel
theorem dX0_winnerByWay_51 : decode cX0_winnerByWay 51 = .ok (.getfield 9, 3) := by decide +kernel
theorem dX0_winnerByWay_54 : decode cX0_winnerByWay 54 = .ok (.iload_n 2, 1) := by decide +kernel
theorem dX0_winnerByWay_55 : decode cX0_winnerByWay 55 = .ok (.iaload, 1) := by decide +kernel
theorem dX0_winnerByWay_56 : decode cX0_winnerByWay 56 = .ok (.aload_n 0, 1) := by decide +kernel
theorem dX0_winnerByWay_57 : decode cX0_winnerByWay 57 = .ok (.getfield 9, 3) := by decide +kernel
theorem dX0_winnerByWay_60 : decode cX0_winnerByWay 60 = .ok (.iload_n 3, 1) := by decide +kernel
theorem dX0_winnerByWay_61 : decode cX0_winnerByWay 61 = .ok (.iaload, 1) := by decide +kernel
theorem dX0_winnerByWay_62 : decode cX0_winnerByWay 62 = .ok (.invokevirtual 29, 3) := by decide +kernel
theorem dX0_winnerByWay_65 : decode cX0_winnerByWay 65 = .ok (.invokevirtual 29, 3) := by decide +kernel
theorem dX0_winnerByWay_68 : decode cX0_winnerByWay 68 = .ok (.ireturn, 1) := by decide +kernel
theorem dX0_winnersOfFour_0 : decode cX0_winnersOfFour 0 = .ok (.aload_n 0, 1) := by decide +kernel
theorem dX0_winnersOfFour_1 : decode cX0_winnersOfFour 1 = .ok (.iload_n 1, 1) := by decide +kernel
theorem dX0_winnersOfFour_2 : decode cX0_winnersOfFour 2 = .ok (.iconst 0, 1) := by decide +kernel
theorem dX0_winnersOfFour_3 : decode cX0_winnersOfFour 3 = .ok (.invokevirtual 25, 3) := by decide +kernel
theorem dX0_winnersOfFour_6 : decode cX0_winnersOfFour 6 = .ok (.pop, 1) := by decide +kernel
theorem dX0_winnersOfFour_7 : decode cX0_winnersOfFour 7 = .ok (.iconst 0, 1) := by decide +kernel
theorem dX0_winnersOfFour_8 : decode cX0_winnersOfFour 8 = .ok (.istore_n 2, 1) := by decide +kernel
theorem dX0_winnersOfFour_9 : decode cX0_winnersOfFour 9 = .ok (.iconst 0, 1) := by decide +kernel
theorem dX0_winnersOfFour_10 : decode cX0_winnersOfFour 10 = .ok (.istore_n 3, 1) := by decide +kernel
theorem dX0_winnersOfFour_11 : decode cX0_winnersOfFour 11 = .ok (.iload_n 3, 1) := by decide +kernel
theorem dX0_winnersOfFour_12 : decode cX0_winnersOfFour 12 = .ok (.iconst 3, 1) := by decide +kernel
theorem dX0_winnersOfFour_13 : decode cX0_winnersOfFour 13 = .ok (.if_icmp .ge 19, 3) := by decide +kernel
theorem dX0_winnersOfFour_16 : decode cX0_winnersOfFour 16 = .ok (.iload_n 2, 1) := by decide +kernel
theorem dX0_winnersOfFour_17 : decode cX0_winnersOfFour 17 = .ok (.iconst 1, 1) := by decide +kernel
theorem dX0_winnersOfFour_18 : decode cX0_winnersOfFour 18 = .ok (.aload_n 0, 1) := by decide +kernel
theorem dX0_winnersOfFour_19 : decode cX0_winnersOfFour 19 = .ok (.iload_n 3, 1) := by decide +kernel
theorem dX0_winnersOfFour_20 : decode cX0_winnersOfFour 20 = .ok (.invokevirtual 47, 3) := by decide +kernel
theorem dX0_winnersOfFour_23 : decode cX0_winnersOfFour 23 = .ok (.ishl, 1) := by decide +kernel
theorem dX0_winnersOfFour_24 : decode cX0_winnersOfFour 24 = .ok (.ior, 1) := by decide +kernel
theorem dX0_winnersOfFour_25 : decode cX0_winnersOfFour 25 = .ok (.istore_n 2, 1) := by decide +kernel
theorem dX0_winnersOfFour_26 : decode cX0_winnersOfFour 26 = .ok (.iinc 3 1, 3) := by decide +kernel
theorem dX0_winnersOfFour_29 : decode cX0_winnersOfFour 29 = .ok (.goto (-18), 3) := by decide +kernel
theorem dX0_winnersOfFour_32 : decode cX0_winnersOfFour 32 = .ok (.iload_n 2, 1) := by decide +kernel
theorem dX0_winnersOfFour_33 : decode cX0_winnersOfFour 33 = .ok (.ireturn, 1) := by decide +kernel
theorem dX0_winnersOfEight_0 : decode cX0_winnersOfEight 0 = .ok (.iconst 0, 1) := by decide +kernel
theorem dX0_winnersOfEight_1 : decode cX0_winnersOfEight 1 = .ok (.istore_n 2, 1) := by decide +kernel
theorem dX0_winnersOfEight_2 : decode cX0_winnersOfEight 2 = .ok (.iconst 1, 1) := by decide +kernel
theorem dX0_winnersOfEight_3 : decode cX0_winnersOfEight 3 = .ok (.istore_n 3, 1) := by decide +kernel
theorem dX0_winnersOfEight_4 : decode cX0_winnersOfEight 4 = .ok (.iload_n 3, 1) := by decide +kernel
theorem dX0_winnersOfEight_5 : decode cX0_winnersOfEight 5 = .ok (.iload_n 1, 1) := by decide +kernel
theorem dX0_winnersOfEight_6 : decode cX0_winnersOfEight 6 = .ok (.if_icmp .ge 55, 3) := by decide +kernel
theorem dX0_winnersOfEight_9 : decode cX0_winnersOfEight 9 = .ok (.iload_n 3, 1) := by decide +kernel
theorem dX0_winnersOfEight_10 : decode cX0_winnersOfEight 10 = .ok (.invokestatic 19, 3) := by decide +kernel
theorem dX0_winnersOfEight_13 : decode cX0_winnersOfEight 13 = .ok (.iconst 4, 1) := by decide +kernel
theorem dX0_winnersOfEight_14 : decode cX0_winnersOfEight 14 = .ok (.if_icmp .ne 41, 3) := by decide +kernel
theorem dX0_winnersOfEight_17 : decode cX0_winnersOfEight 17 = .ok (.aload_n 0, 1) := by decide +kernel
theorem dX0_winnersOfEight_18 : decode cX0_winnersOfEight 18 = .ok (.iload_n 3, 1) := by decide +kernel
theorem dX0_winnersOfEight_19 : decode cX0_winnersOfEight 19 = .ok (.invokevirtual 34, 3) := by decide +kernel
theorem dX0_winnersOfEight_22 : decode cX0_winnersOfEight 22 = .ok (.istore 4, 2) := by decide +kernel
theorem dX0_winnersOfEight_24 : decode cX0_winnersOfEight 24 = .ok (.aload_n 0, 1) := by decide +kernel
theorem dX0_winnersOfEight_25 : decode cX0_winnersOfEight 25 = .ok (.iload_n 1, 1) := by decide +kernel
theorem dX0_winnersOfEight_26 : decode cX0_winnersOfEight 26 = .ok (.iload_n 3, 1) := by decide +kernel
theorem dX0_winnersOfEight_27 : decode cX0_winnersOfEight 27 = .ok (.iconst (-1), 1) := by decide +kernel
theorem dX0_winnersOfEight_28 : decode cX0_winnersOfEight 28 = .ok (.ixor, 1) := by decide +kernel
theorem dX0_winnersOfEight_29 : decode cX0_winnersOfEight 29 = .ok (.iand, 1) := by decide +kernel
theorem dX0_winnersOfEight_30 : decode cX0_winnersOfEight 30 = .ok (.invokevirtual 34, 3) := by decide +kernel
theorem dX0_winnersOfEight_33 : decode cX0_winnersOfEight 33 = .ok (.istore 5, 2) := by decide +kernel
theorem dX0_winnersOfEight_35 : decode cX0_winnersOfEight 35 = .ok (.iload_n 2, 1) := by decide +kernel
theorem dX0_winnersOfEight_36 : decode cX0_winnersOfEight 36 = .ok (.aload_n 0, 1) := by decide +kernel
theorem dX0_winnersOfEight_37 : decode cX0_winnersOfEight 37 = .ok (.iload 4, 2) := by decide +kernel
theorem dX0_winnersOfEight_39 : decode cX0_winnersOfEight 39 = .ok (.iload 5, 2) := by decide +kernel
theorem dX0_winnersOfEight_41 : decode cX0_winnersOfEight 41 = .ok (.invokevirtual 50, 3) := by decide +kernel
theorem dX0_winnersOfEight_44 : decode cX0_winnersOfEight 44 = .ok (.aload_n 0, 1) := by decide +kernel
theorem dX0_winnersOfEight_45 : decode cX0_winnersOfEight 45 = .ok (.iload 5, 2) := by decide +kernel
theorem dX0_winnersOfEight_47 : decode cX0_winnersOfEight 47 = .ok (.iload 4, 2) := by decide +kernel
theorem dX0_winnersOfEight_49 : decode cX0_winnersOfEight 49 = .ok (.invokevirtual 50, 3) := by decide +kernel
theorem dX0_winnersOfEight_52 : decode cX0_winnersOfEight 52 = .ok (.ior, 1) := by decide +kernel
theorem dX0_winnersOfEight_53 : decode cX0_winnersOfEight 53 = .ok (.ior, 1) := by decide +kernel
theorem dX0_winnersOfEight_54 : decode cX0_winnersOfEight 54 = .ok (.istore_n 2, 1) := by decide +kernel
theorem dX0_winnersOfEight_55 : decode cX0_winnersOfEight 55 = .ok (.iinc 3 2, 3) := by decide +kernel
theorem dX0_winnersOfEight_58 : decode cX0_winnersOfEight 58 = .ok (.goto (-54), 3) := by decide +kernel
theorem dX0_winnersOfEight_61 : decode cX0_winnersOfEight 61 = .ok (.iload_n 2, 1) := by decide +kernel
theorem dX0_winnersOfEight_62 : decode cX0_winnersOfEight 62 = .ok (.ireturn, 1) := by decide +kernel
theorem dX0_winnersOver_0 : decode cX0_winnersOver 0 = .ok (.iconst 0, 1) := by decide +kernel
theorem dX0_winnersOver_1 : decode cX0_winnersOver 1 = .ok (.istore_n 3, 1) := by decide +kernel
theorem dX0_winnersOver_2 : decode cX0_winnersOver 2 = .ok (.iconst 0, 1) := by decide +kernel
theorem dX0_winnersOver_3 : decode cX0_winnersOver 3 = .ok (.istore 4, 2) := by decide +kernel
theorem dX0_winnersOver_5 : decode cX0_winnersOver 5 = .ok (.iload 4, 2) := by decide +kernel
theorem dX0_winnersOver_7 : decode cX0_winnersOver 7 = .ok (.aload_n 0, 1) := by decide +kernel
theorem dX0_winnersOver_8 : decode cX0_winnersOver 8 = .ok (.getfield 15, 3) := by decide +kernel
theorem dX0_winnersOver_11 : decode cX0_winnersOver 11 = .ok (.getfield 40, 3) := by decide +kernel
theorem dX0_winnersOver_14 : decode cX0_winnersOver 14 = .ok (.if_icmp .ge 41, 3) := by decide +kernel
theorem dX0_winnersOver_17 : decode cX0_winnersOver 17 = .ok (.iload_n 1, 1) := by decide +kernel
theorem dX0_winnersOver_18 : decode cX0_winnersOver 18 = .ok (.iload 4, 2) := by decide +kernel
theorem dX0_winnersOver_20 : decode cX0_winnersOver 20 = .ok (.invokestatic 44, 3) := by decide +kernel
theorem dX0_winnersOver_23 : decode cX0_winnersOver 23 = .ok (.iconst 1, 1) := by decide +kernel
theorem dX0_winnersOver_24 : decode cX0_winnersOver 24 = .ok (.if_icmp .ne 25, 3) := by decide +kernel
theorem dX0_winnersOver_27 : decode cX0_winnersOver 27 = .ok (.aload_n 0, 1) := by decide +kernel
theorem dX0_winnersOver_28 : decode cX0_winnersOver 28 = .ok (.getfield 15, 3) := by decide +kernel
theorem dX0_winnersOver_31 : decode cX0_winnersOver 31 = .ok (.getfield 53, 3) := by decide +kernel
theorem dX0_winnersOver_34 : decode cX0_winnersOver 34 = .ok (.iload 4, 2) := by decide +kernel
theorem dX0_winnersOver_36 : decode cX0_winnersOver 36 = .ok (.iaload, 1) := by decide +kernel
theorem dX0_winnersOver_37 : decode cX0_winnersOver 37 = .ok (.iload_n 2, 1) := by decide +kernel
theorem dX0_winnersOver_38 : decode cX0_winnersOver 38 = .ok (.iand, 1) := by decide +kernel
theorem dX0_winnersOver_39 : decode cX0_winnersOver 39 = .ok (.ifCond .eq 10, 3) := by decide +kernel
theorem dX0_winnersOver_42 : decode cX0_winnersOver 42 = .ok (.iload_n 3, 1) := by decide +kernel
theorem dX0_winnersOver_43 : decode cX0_winnersOver 43 = .ok (.iconst 1, 1) := by decide +kernel
theorem dX0_winnersOver_44 : decode cX0_winnersOver 44 = .ok (.iload 4, 2) := by decide +kernel
theorem dX0_winnersOver_46 : decode cX0_winnersOver 46 = .ok (.ishl, 1) := by decide +kernel
theorem dX0_winnersOver_47 : decode cX0_winnersOver 47 = .ok (.ior, 1) := by decide +kernel
theorem dX0_winnersOver_48 : decode cX0_winnersOver 48 = .ok (.istore_n 3, 1) := by decide +kernel
theorem dX0_winnersOver_49 : decode cX0_winnersOver 49 = .ok (.iinc 4 1, 3) := by decide +kernel
theorem dX0_winnersOver_52 : decode cX0_winnersOver 52 = .ok (.goto (-47), 3) := by decide +kernel
theorem dX0_winnersOver_55 : decode cX0_winnersOver 55 = .ok (.iload_n 3, 1) := by decide +kernel
theorem dX0_winnersOver_56 : decode cX0_winnersOver 56 = .ok (.ireturn, 1) := by decide +kernel
theorem dX0_rowsWonBy_0 : decode cX0_rowsWonBy 0 = .ok (.aload_n 0, 1) := by decide +kernel
theorem dX0_rowsWonBy_1 : decode cX0_rowsWonBy 1 = .ok (.getfield 15, 3) := by decide +kernel
theorem dX0_rowsWonBy_4 : decode cX0_rowsWonBy 4 = .ok (.invokevirtual 56, 3) := by decide +kernel
theorem dX0_rowsWonBy_7 : decode cX0_rowsWonBy 7 = .ok (.istore_n 2, 1) := by decide +kernel
theorem dX0_rowsWonBy_8 : decode cX0_rowsWonBy 8 = .ok (.aload_n 0, 1) := by decide +kernel
theorem dX0_rowsWonBy_9 : decode cX0_rowsWonBy 9 = .ok (.getfield 15, 3) := by decide +kernel
theorem dX0_rowsWonBy_12 : decode cX0_rowsWonBy 12 = .ok (.getfield 40, 3) := by decide +kernel
theorem dX0_rowsWonBy_15 : decode cX0_rowsWonBy 15 = .ok (.tableswitch 81 1 8 #[45, 47, 81, 65, 81, 81, 81, 74], 45) := by decide +kernel
theorem dX0_rowsWonBy_60 : decode cX0_rowsWonBy 60 = .ok (.iconst 1, 1) := by decide +kernel
theorem dX0_rowsWonBy_61 : decode cX0_rowsWonBy 61 = .ok (.ireturn, 1) := by decide +kernel
theorem dX0_rowsWonBy_62 : decode cX0_rowsWonBy 62 = .ok (.aload_n 0, 1) := by decide +kernel
theorem dX0_rowsWonBy_63 : decode cX0_rowsWonBy 63 = .ok (.getfield 15, 3) := by decide +kernel
theorem dX0_rowsWonBy_66 : decode cX0_rowsWonBy 66 = .ok (.getfield 53, 3) := by decide +kernel
theorem dX0_rowsWonBy_69 : decode cX0_rowsWonBy 69 = .ok (.iload_n 1, 1) := by decide +kernel
theorem dX0_rowsWonBy_70 : decode cX0_rowsWonBy 70 = .ok (.iaload, 1) := by decide +kernel
theorem dX0_rowsWonBy_71 : decode cX0_rowsWonBy 71 = .ok (.ifCond .ne 7, 3) := by decide +kernel
theorem dX0_rowsWonBy_74 : decode cX0_rowsWonBy 74 = .ok (.iconst 0, 1) := by decide +kernel
theorem dX0_rowsWonBy_75 : decode cX0_rowsWonBy 75 = .ok (.goto 4, 3) := by decide +kernel
theorem dX0_rowsWonBy_78 : decode cX0_rowsWonBy 78 = .ok (.iconst 2, 1) := by decide +kernel
theorem dX0_rowsWonBy_79 : decode cX0_rowsWonBy 79 = .ok (.ireturn, 1) := by decide +kernel
theorem dX0_rowsWonBy_80 : decode cX0_rowsWonBy 80 = .ok (.aload_n 0, 1) := by decide +kernel
theorem dX0_rowsWonBy_81 : decode cX0_rowsWonBy 81 = .ok (.iload_n 2, 1) := by decide +kernel
theorem dX0_rowsWonBy_82 : decode cX0_rowsWonBy 82 = .ok (.iconst 1, 1) := by decide +kernel
theorem dX0_rowsWonBy_83 : decode cX0_rowsWonBy 83 = .ok (.iload_n 1, 1) := by decide +kernel
theorem dX0_rowsWonBy_84 : decode cX0_rowsWonBy 84 = .ok (.ishl, 1) := by decide +kernel
theorem dX0_rowsWonBy_85 : decode cX0_rowsWonBy 85 = .ok (.invokevirtual 60, 3) := by decide +kernel
theorem dX0_rowsWonBy_88 : decode cX0_rowsWonBy 88 = .ok (.ireturn, 1) := by decide +kernel
theorem dX0_rowsWonBy_89 : decode cX0_rowsWonBy 89 = .ok (.aload_n 0, 1) := by decide +kernel
theorem dX0_rowsWonBy_90 : decode cX0_rowsWonBy 90 = .ok (.iload_n 2, 1) := by decide +kernel
theorem dX0_rowsWonBy_91 : decode cX0_rowsWonBy 91 = .ok (.iload_n 1, 1) := by decide +kernel
theorem dX0_rowsWonBy_92 : decode cX0_rowsWonBy 92 = .ok (.invokevirtual 63, 3) := by decide +kernel
theorem dX0_rowsWonBy_95 : decode cX0_rowsWonBy 95 = .ok (.ireturn, 1) := by decide +kernel
theorem dX0_rowsWonBy_96 : decode cX0_rowsWonBy 96 = .ok (.iconst 0, 1) := by decide +kernel
theorem dX0_rowsWonBy_97 : decode cX0_rowsWonBy 97 = .ok (.ireturn, 1) := by decide +kernel
theorem dX0_rowsOfFour_0 : decode cX0_rowsOfFour 0 = .ok (.aload_n 0, 1) := by decide +kernel
theorem dX0_rowsOfFour_1 : decode cX0_rowsOfFour 1 = .ok (.iload_n 1, 1) := by decide +kernel
theorem dX0_rowsOfFour_2 : decode cX0_rowsOfFour 2 = .ok (.iconst 0, 1) := by decide +kernel
theorem dX0_rowsOfFour_3 : decode cX0_rowsOfFour 3 = .ok (.invokevirtual 25, 3) := by decide +kernel
theorem dX0_rowsOfFour_6 : decode cX0_rowsOfFour 6 = .ok (.pop, 1) := by decide +kernel
theorem dX0_rowsOfFour_7 : decode cX0_rowsOfFour 7 = .ok (.iconst 0, 1) := by decide +kernel
theorem dX0_rowsOfFour_8 : decode cX0_rowsOfFour 8 = .ok (.istore_n 3, 1) := by decide +kernel
theorem dX0_rowsOfFour_9 : decode cX0_rowsOfFour 9 = .ok (.iconst 0, 1) := by decide +kernel
theorem dX0_rowsOfFour_10 : decode cX0_rowsOfFour 10 = .ok (.istore 4, 2) := by decide +kernel
theorem dX0_rowsOfFour_12 : decode cX0_rowsOfFour 12 = .ok (.iload 4, 2) := by decide +kernel
theorem dX0_rowsOfFour_14 : decode cX0_rowsOfFour 14 = .ok (.iconst 3, 1) := by decide +kernel
theorem dX0_rowsOfFour_15 : decode cX0_rowsOfFour 15 = .ok (.if_icmp .ge 22, 3) := by decide +kernel
theorem dX0_rowsOfFour_18 : decode cX0_rowsOfFour 18 = .ok (.iload_n 3, 1) := by decide +kernel
theorem dX0_rowsOfFour_19 : decode cX0_rowsOfFour 19 = .ok (.iload_n 2, 1) := by decide +kernel
theorem dX0_rowsOfFour_20 : decode cX0_rowsOfFour 20 = .ok (.aload_n 0, 1) := by decide +kernel
theorem dX0_rowsOfFour_21 : decode cX0_rowsOfFour 21 = .ok (.iload 4, 2) := by decide +kernel
theorem dX0_rowsOfFour_23 : decode cX0_rowsOfFour 23 = .ok (.invokevirtual 47, 3) := by decide +kernel
theorem dX0_rowsOfFour_26 : decode cX0_rowsOfFour 26 = .ok (.invokestatic 44, 3) := by decide +kernel
theorem dX0_rowsOfFour_29 : decode cX0_rowsOfFour 29 = .ok (.iadd, 1) := by decide +kernel
theorem dX0_rowsOfFour_30 : decode cX0_rowsOfFour 30 = .ok (.istore_n 3, 1) := by decide +kernel
theorem dX0_rowsOfFour_31 : decode cX0_rowsOfFour 31 = .ok (.iinc 4 1, 3) := by decide +kernel
theorem dX0_rowsOfFour_34 : decode cX0_rowsOfFour 34 = .ok (.goto (-22), 3) := by decide +kernel
theorem dX0_rowsOfFour_37 : decode cX0_rowsOfFour 37 = .ok (.bipush 8, 2) := by decide +kernel
theorem dX0_rowsOfFour_39 : decode cX0_rowsOfFour 39 = .ok (.iload_n 3, 1) := by decide +kernel
theorem dX0_rowsOfFour_40 : decode cX0_rowsOfFour 40 = .ok (.imul, 1) := by decide +kernel
theorem dX0_rowsOfFour_41 : decode cX0_rowsOfFour 41 = .ok (.ireturn, 1) := by decide +kernel
theorem dX0_rowsOfEight_0 : decode cX0_rowsOfEight 0 = .ok (.iconst 0, 1) := by decide +kernel
theorem dX0_rowsOfEight_1 : decode cX0_rowsOfEight 1 = .ok (.istore_n 3, 1) := by decide +kernel
theorem dX0_rowsOfEight_2 : decode cX0_rowsOfEight 2 = .ok (.iconst 1, 1) := by decide +kernel
theorem dX0_rowsOfEight_3 : decode cX0_rowsOfEight 3 = .ok (.istore 4, 2) := by decide +kernel
theorem dX0_rowsOfEight_5 : decode cX0_rowsOfEight 5 = .ok (.iload 4, 2) := by decide +kernel
theorem dX0_rowsOfEight_7 : decode cX0_rowsOfEight 7 = .ok (.iload_n 1, 1) := by decide +kernel
theorem dX0_rowsOfEight_8 : decode cX0_rowsOfEight 8 = .ok (.if_icmp .ge 62, 3) := by decide +kernel
theorem dX0_rowsOfEight_11 : decode cX0_rowsOfEight 11 = .ok (.iload 4, 2) := by decide +kernel
theorem dX0_rowsOfEight_13 : decode cX0_rowsOfEight 13 = .ok (.invokestatic 19, 3) := by decide +kernel
theorem dX0_rowsOfEight_16 : decode cX0_rowsOfEight 16 = .ok (.iconst 4, 1) := by decide +kernel
theorem dX0_rowsOfEight_17 : decode cX0_rowsOfEight 17 = .ok (.if_icmp .ne 47, 3) := by decide +kernel
theorem dX0_rowsOfEight_20 : decode cX0_rowsOfEight 20 = .ok (.iload 4, 2) := by decide +kernel
theorem dX0_rowsOfEight_22 : decode cX0_rowsOfEight 22 = .ok (.iload_n 2, 1) := by decide +kernel
theorem dX0_rowsOfEight_23 : decode cX0_rowsOfEight 23 = .ok (.invokestatic 44, 3) := by decide +kernel
theorem dX0_rowsOfEight_26 : decode cX0_rowsOfEight 26 = .ok (.iconst 1, 1) := by decide +kernel
theorem dX0_rowsOfEight_27 : decode cX0_rowsOfEight 27 = .ok (.if_icmp .ne 37, 3) := by decide +kernel
theorem dX0_rowsOfEight_30 : decode cX0_rowsOfEight 30 = .ok (.iload_n 3, 1) := by decide +kernel
theorem dX0_rowsOfEight_31 : decode cX0_rowsOfEight 31 = .ok (.iconst 2, 1) := by decide +kernel
theorem dX0_rowsOfEight_32 : decode cX0_rowsOfEight 32 = .ok (.aload_n 0, 1) := by decide +kernel
theorem dX0_rowsOfEight_33 : decode cX0_rowsOfEight 33 = .ok (.iload 4, 2) := by decide +kernel
theorem dX0_rowsOfEight_35 : decode cX0_rowsOfEight 35 = .ok (.iconst 1, 1) := by decide +kernel
theorem dX0_rowsOfEight_36 : decode cX0_rowsOfEight 36 = .ok (.iload_n 2, 1) := by decide +kernel
theorem dX0_rowsOfEight_37 : decode cX0_rowsOfEight 37 = .ok (.ishl, 1) := by decide +kernel
theorem dX0_rowsOfEight_38 : decode cX0_rowsOfEight 38 = .ok (.invokevirtual 60, 3) := by decide +kernel
theorem dX0_rowsOfEight_41 : decode cX0_rowsOfEight 41 = .ok (.imul, 1) := by decide +kernel
theorem dX0_rowsOfEight_42 : decode cX0_rowsOfEight 42 = .ok (.aload_n 0, 1) := by decide +kernel
theorem dX0_rowsOfEight_43 : decode cX0_rowsOfEight 43 = .ok (.iload_n 1, 1) := by decide +kernel
theorem dX0_rowsOfEight_44 : decode cX0_rowsOfEight 44 = .ok (.iload 4, 2) := by decide +kernel
theorem dX0_rowsOfEight_46 : decode cX0_rowsOfEight 46 = .ok (.iconst (-1), 1) := by decide +kernel
theorem dX0_rowsOfEight_47 : decode cX0_rowsOfEight 47 = .ok (.ixor, 1) := by decide +kernel
theorem dX0_rowsOfEight_48 : decode cX0_rowsOfEight 48 = .ok (.iand, 1) := by decide +kernel
theorem dX0_rowsOfEight_49 : decode cX0_rowsOfEight 49 = .ok (.aload_n 0, 1) := by decide +kernel
theorem dX0_rowsOfEight_50 : decode cX0_rowsOfEight 50 = .ok (.getfield 15, 3) := by decide +kernel
theorem dX0_rowsOfEight_53 : decode cX0_rowsOfEight 53 = .ok (.getfield 53, 3) := by decide +kernel
theorem dX0_rowsOfEight_56 : decode cX0_rowsOfEight 56 = .ok (.iload_n 2, 1) := by decide +kernel
theorem dX0_rowsOfEight_57 : decode cX0_rowsOfEight 57 = .ok (.iaload, 1) := by decide +kernel
theorem dX0_rowsOfEight_58 : decode cX0_rowsOfEight 58 = .ok (.invokevirtual 60, 3) := by decide +kernel
theorem dX0_rowsOfEight_61 : decode cX0_rowsOfEight 61 = .ok (.imul, 1) := by decide +kernel
theorem dX0_rowsOfEight_62 : decode cX0_rowsOfEight 62 = .ok (.iadd, 1) := by decide +kernel
theorem dX0_rowsOfEight_63 : decode cX0_rowsOfEight 63 = .ok (.istore_n 3, 1) := by decide +kernel
theorem dX0_rowsOfEight_64 : decode cX0_rowsOfEight 64 = .ok (.iinc 4 1, 3) := by decide +kernel
theorem dX0_rowsOfEight_67 : decode cX0_rowsOfEight 67 = .ok (.goto (-62), 3) := by decide +kernel
theorem dX0_rowsOfEight_70 : decode cX0_rowsOfEight 70 = .ok (.iload_n 3, 1) := by decide +kernel
theorem dX0_rowsOfEight_71 : decode cX0_rowsOfEight 71 = .ok (.ireturn, 1) := by decide +kernel
theorem dX0_leastRowWonBy_0 : decode cX0_leastRowWonBy 0 = .ok (.aload_n 0, 1) := by decide +kernel
theorem dX0_leastRowWonBy_1 : decode cX0_leastRowWonBy 1 = .ok (.getfield 15, 3) := by decide +kernel
theorem dX0_leastRowWonBy_4 : decode cX0_leastRowWonBy 4 = .ok (.invokevirtual 56, 3) := by decide +kernel
theorem dX0_leastRowWonBy_7 : decode cX0_leastRowWonBy 7 = .ok (.istore_n 2, 1) := by decide +kernel
theorem dX0_leastRowWonBy_8 : decode cX0_leastRowWonBy 8 = .ok (.aload_n 0, 1) := by decide +kernel
theorem dX0_leastRowWonBy_9 : decode cX0_leastRowWonBy 9 = .ok (.getfield 15, 3) := by decide +kernel
theorem dX0_leastRowWonBy_12 : decode cX0_leastRowWonBy 12 = .ok (.getfield 40, 3) := by decide +kernel
theorem dX0_leastRowWonBy_15 : decode cX0_leastRowWonBy 15 = .ok (.tableswitch 81 1 8 #[45, 47, 81, 65, 81, 81, 81, 74], 45) := by decide +kernel
theorem dX0_leastRowWonBy_60 : decode cX0_leastRowWonBy 60 = .ok (.iconst 0, 1) := by decide +kernel
theorem dX0_leastRowWonBy_61 : decode cX0_leastRowWonBy 61 = .ok (.ireturn, 1) := by decide +kernel
theorem dX0_leastRowWonBy_62 : decode cX0_leastRowWonBy 62 = .ok (.aload_n 0, 1) := by decide +kernel
theorem dX0_leastRowWonBy_63 : decode cX0_leastRowWonBy 63 = .ok (.getfield 15, 3) := by decide +kernel
theorem dX0_leastRowWonBy_66 : decode cX0_leastRowWonBy 66 = .ok (.getfield 53, 3) := by decide +kernel
theorem dX0_leastRowWonBy_69 : decode cX0_leastRowWonBy 69 = .ok (.iload_n 1, 1) := by decide +kernel
theorem dX0_leastRowWonBy_70 : decode cX0_leastRowWonBy 70 = .ok (.iaload, 1) := by decide +kernel
theorem dX0_leastRowWonBy_71 : decode cX0_leastRowWonBy 71 = .ok (.ifCond .ne 7, 3) := by decide +kernel
theorem dX0_leastRowWonBy_74 : decode cX0_leastRowWonBy 74 = .ok (.iconst (-1), 1) := by decide +kernel
theorem dX0_leastRowWonBy_75 : decode cX0_leastRowWonBy 75 = .ok (.goto 4, 3) := by decide +kernel
theorem dX0_leastRowWonBy_78 : decode cX0_leastRowWonBy 78 = .ok (.iconst 1, 1) := by decide +kernel
theorem dX0_leastRowWonBy_79 : decode cX0_leastRowWonBy 79 = .ok (.ireturn, 1) := by decide +kernel
theorem dX0_leastRowWonBy_80 : decode cX0_leastRowWonBy 80 = .ok (.aload_n 0, 1) := by decide +kernel
theorem dX0_leastRowWonBy_81 : decode cX0_leastRowWonBy 81 = .ok (.iload_n 2, 1) := by decide +kernel
theorem dX0_leastRowWonBy_82 : decode cX0_leastRowWonBy 82 = .ok (.iconst 1, 1) := by decide +kernel
theorem dX0_leastRowWonBy_83 : decode cX0_leastRowWonBy 83 = .ok (.iload_n 1, 1) := by decide +kernel
theorem dX0_leastRowWonBy_84 : decode cX0_leastRowWonBy 84 = .ok (.ishl, 1) := by decide +kernel
theorem dX0_leastRowWonBy_85 : decode cX0_leastRowWonBy 85 = .ok (.invokevirtual 66, 3) := by decide +kernel
theorem dX0_leastRowWonBy_88 : decode cX0_leastRowWonBy 88 = .ok (.ireturn, 1) := by decide +kernel
theorem dX0_leastRowWonBy_89 : decode cX0_leastRowWonBy 89 = .ok (.aload_n 0, 1) := by decide +kernel
theorem dX0_leastRowWonBy_90 : decode cX0_leastRowWonBy 90 = .ok (.iload_n 2, 1) := by decide +kernel
theorem dX0_leastRowWonBy_91 : decode cX0_leastRowWonBy 91 = .ok (.iload_n 1, 1) := by decide +kernel
theorem dX0_leastRowWonBy_92 : decode cX0_leastRowWonBy 92 = .ok (.invokevirtual 69, 3) := by decide +kernel
theorem dX0_leastRowWonBy_95 : decode cX0_leastRowWonBy 95 = .ok (.ireturn, 1) := by decide +kernel
theorem dX0_leastRowWonBy_96 : decode cX0_leastRowWonBy 96 = .ok (.iconst (-1), 1) := by decide +kernel
theorem dX0_leastRowWonBy_97 : decode cX0_leastRowWonBy 97 = .ok (.ireturn, 1) := by decide +kernel
theorem dX0_leastRowOfFour_0 : decode cX0_leastRowOfFour 0 = .ok (.aload_n 0, 1) := by decide +kernel
theorem dX0_leastRowOfFour_1 : decode cX0_leastRowOfFour 1 = .ok (.iload_n 1, 1) := by decide +kernel
theorem dX0_leastRowOfFour_2 : decode cX0_leastRowOfFour 2 = .ok (.iconst 0, 1) := by decide +kernel
theorem dX0_leastRowOfFour_3 : decode cX0_leastRowOfFour 3 = .ok (.invokevirtual 25, 3) := by decide +kernel
theorem dX0_leastRowOfFour_6 : decode cX0_leastRowOfFour 6 = .ok (.pop, 1) := by decide +kernel
theorem dX0_leastRowOfFour_7 : decode cX0_leastRowOfFour 7 = .ok (.iconst 0, 1) := by decide +kernel
theorem dX0_leastRowOfFour_8 : decode cX0_leastRowOfFour 8 = .ok (.istore_n 3, 1) := by decide +kernel
theorem dX0_leastRowOfFour_9 : decode cX0_leastRowOfFour 9 = .ok (.iload_n 3, 1) := by decide +kernel
theorem dX0_leastRowOfFour_10 : decode cX0_leastRowOfFour 10 = .ok (.iconst 3, 1) := by decide +kernel
theorem dX0_leastRowOfFour_11 : decode cX0_leastRowOfFour 11 = .ok (.if_icmp .ge 83, 3) := by decide +kernel
theorem dX0_leastRowOfFour_14 : decode cX0_leastRowOfFour 14 = .ok (.iload_n 2, 1) := by decide +kernel
theorem dX0_leastRowOfFour_15 : decode cX0_leastRowOfFour 15 = .ok (.aload_n 0, 1) := by decide +kernel
theorem dX0_leastRowOfFour_16 : decode cX0_leastRowOfFour 16 = .ok (.iload_n 3, 1) := by decide +kernel
theorem dX0_leastRowOfFour_17 : decode cX0_leastRowOfFour 17 = .ok (.invokevirtual 47, 3) := by decide +kernel
theorem dX0_leastRowOfFour_20 : decode cX0_leastRowOfFour 20 = .ok (.invokestatic 44, 3) := by decide +kernel
theorem dX0_leastRowOfFour_23 : decode cX0_leastRowOfFour 23 = .ok (.iconst 1, 1) := by decide +kernel
theorem dX0_leastRowOfFour_24 : decode cX0_leastRowOfFour 24 = .ok (.if_icmp .ne 64, 3) := by decide +kernel
theorem dX0_leastRowOfFour_27 : decode cX0_leastRowOfFour 27 = .ok (.iload_n 3, 1) := by decide +kernel
theorem dX0_leastRowOfFour_28 : decode cX0_leastRowOfFour 28 = .ok (.ifCond .ne 7, 3) := by decide +kernel
theorem dX0_leastRowOfFour_31 : decode cX0_leastRowOfFour 31 = .ok (.iconst 2, 1) := by decide +kernel
theorem dX0_leastRowOfFour_32 : decode cX0_leastRowOfFour 32 = .ok (.goto 4, 3) := by decide +kernel
theorem dX0_leastRowOfFour_35 : decode cX0_leastRowOfFour 35 = .ok (.iconst 1, 1) := by decide +kernel
theorem dX0_leastRowOfFour_36 : decode cX0_leastRowOfFour 36 = .ok (.istore 4, 2) := by decide +kernel
theorem dX0_leastRowOfFour_38 : decode cX0_leastRowOfFour 38 = .ok (.iload_n 3, 1) := by decide +kernel
theorem dX0_leastRowOfFour_39 : decode cX0_leastRowOfFour 39 = .ok (.iconst 2, 1) := by decide +kernel
theorem dX0_leastRowOfFour_40 : decode cX0_leastRowOfFour 40 = .ok (.if_icmp .ne 7, 3) := by decide +kernel
theorem dX0_leastRowOfFour_43 : decode cX0_leastRowOfFour 43 = .ok (.iconst 2, 1) := by decide +kernel
theorem dX0_leastRowOfFour_44 : decode cX0_leastRowOfFour 44 = .ok (.goto 4, 3) := by decide +kernel
theorem dX0_leastRowOfFour_47 : decode cX0_leastRowOfFour 47 = .ok (.iconst 3, 1) := by decide +kernel
theorem dX0_leastRowOfFour_48 : decode cX0_leastRowOfFour 48 = .ok (.istore 5, 2) := by decide +kernel
theorem dX0_leastRowOfFour_50 : decode cX0_leastRowOfFour 50 = .ok (.aload_n 0, 1) := by decide +kernel
theorem dX0_leastRowOfFour_51 : decode cX0_leastRowOfFour 51 = .ok (.getfield 9, 3) := by decide +kernel
theorem dX0_leastRowOfFour_54 : decode cX0_leastRowOfFour 54 = .ok (.iconst 0, 1) := by decide +kernel
theorem dX0_leastRowOfFour_55 : decode cX0_leastRowOfFour 55 = .ok (.iaload, 1) := by decide +kernel
theorem dX0_leastRowOfFour_56 : decode cX0_leastRowOfFour 56 = .ok (.iconst 3, 1) := by decide +kernel
theorem dX0_leastRowOfFour_57 : decode cX0_leastRowOfFour 57 = .ok (.ishl, 1) := by decide +kernel
theorem dX0_leastRowOfFour_58 : decode cX0_leastRowOfFour 58 = .ok (.aload_n 0, 1) := by decide +kernel
theorem dX0_leastRowOfFour_59 : decode cX0_leastRowOfFour 59 = .ok (.getfield 9, 3) := by decide +kernel
theorem dX0_leastRowOfFour_62 : decode cX0_leastRowOfFour 62 = .ok (.iload_n 3, 1) := by decide +kernel
theorem dX0_leastRowOfFour_63 : decode cX0_leastRowOfFour 63 = .ok (.iconst 1, 1) := by decide +kernel
theorem dX0_leastRowOfFour_64 : decode cX0_leastRowOfFour 64 = .ok (.iadd, 1) := by decide +kernel
theorem dX0_leastRowOfFour_65 : decode cX0_leastRowOfFour 65 = .ok (.iaload, 1) := by decide +kernel
theorem dX0_leastRowOfFour_66 : decode cX0_leastRowOfFour 66 = .ok (.ior, 1) := by decide +kernel
theorem dX0_leastRowOfFour_67 : decode cX0_leastRowOfFour 67 = .ok (.iconst 3, 1) := by decide +kernel
theorem dX0_leastRowOfFour_68 : decode cX0_leastRowOfFour 68 = .ok (.ishl, 1) := by decide +kernel
theorem dX0_leastRowOfFour_69 : decode cX0_leastRowOfFour 69 = .ok (.aload_n 0, 1) := by decide +kernel
theorem dX0_leastRowOfFour_70 : decode cX0_leastRowOfFour 70 = .ok (.getfield 9, 3) := by decide +kernel
theorem dX0_leastRowOfFour_73 : decode cX0_leastRowOfFour 73 = .ok (.iload 4, 2) := by decide +kernel
theorem dX0_leastRowOfFour_75 : decode cX0_leastRowOfFour 75 = .ok (.iaload, 1) := by decide +kernel
theorem dX0_leastRowOfFour_76 : decode cX0_leastRowOfFour 76 = .ok (.ior, 1) := by decide +kernel
theorem dX0_leastRowOfFour_77 : decode cX0_leastRowOfFour 77 = .ok (.iconst 3, 1) := by decide +kernel
theorem dX0_leastRowOfFour_78 : decode cX0_leastRowOfFour 78 = .ok (.ishl, 1) := by decide +kernel
theorem dX0_leastRowOfFour_79 : decode cX0_leastRowOfFour 79 = .ok (.aload_n 0, 1) := by decide +kernel
theorem dX0_leastRowOfFour_80 : decode cX0_leastRowOfFour 80 = .ok (.getfield 9, 3) := by decide +kernel
theorem dX0_leastRowOfFour_83 : decode cX0_leastRowOfFour 83 = .ok (.iload 5, 2) := by decide +kernel
theorem dX0_leastRowOfFour_85 : decode cX0_leastRowOfFour 85 = .ok (.iaload, 1) := by decide +kernel
theorem dX0_leastRowOfFour_86 : decode cX0_leastRowOfFour 86 = .ok (.ior, 1) := by decide +kernel
theorem dX0_leastRowOfFour_87 : decode cX0_leastRowOfFour 87 = .ok (.ireturn, 1) := by decide +kernel
theorem dX0_leastRowOfFour_88 : decode cX0_leastRowOfFour 88 = .ok (.iinc 3 1, 3) := by decide +kernel
theorem dX0_leastRowOfFour_91 : decode cX0_leastRowOfFour 91 = .ok (.goto (-82), 3) := by decide +kernel
theorem dX0_leastRowOfFour_94 : decode cX0_leastRowOfFour 94 = .ok (.iconst (-1), 1) := by decide +kernel
theorem dX0_leastRowOfFour_95 : decode cX0_leastRowOfFour 95 = .ok (.ireturn, 1) := by decide +kernel
theorem dX0_leastRowOfEight_0 : decode cX0_leastRowOfEight 0 = .ok (.iconst (-1), 1) := by decide +kernel
theorem dX0_leastRowOfEight_1 : decode cX0_leastRowOfEight 1 = .ok (.istore_n 3, 1) := by decide +kernel
theorem dX0_leastRowOfEight_2 : decode cX0_leastRowOfEight 2 = .ok (.iconst 1, 1) := by decide +kernel
theorem dX0_leastRowOfEight_3 : decode cX0_leastRowOfEight 3 = .ok (.istore 4, 2) := by decide +kernel
theorem dX0_leastRowOfEight_5 : decode cX0_leastRowOfEight 5 = .ok (.iload 4, 2) := by decide +kernel
theorem dX0_leastRowOfEight_7 : decode cX0_leastRowOfEight 7 = .ok (.iload_n 1, 1) := by decide +kernel
theorem dX0_leastRowOfEight_8 : decode cX0_leastRowOfEight 8 = .ok (.if_icmp .ge 137, 3) := by decide +kernel
theorem dX0_leastRowOfEight_11 : decode cX0_leastRowOfEight 11 = .ok (.iload 4, 2) := by decide +kernel
theorem dX0_leastRowOfEight_13 : decode cX0_leastRowOfEight 13 = .ok (.invokestatic 19, 3) := by decide +kernel
theorem dX0_leastRowOfEight_16 : decode cX0_leastRowOfEight 16 = .ok (.iconst 4, 1) := by decide +kernel
theorem dX0_leastRowOfEight_17 : decode cX0_leastRowOfEight 17 = .ok (.if_icmp .eq 6, 3) := by decide +kernel
theorem dX0_leastRowOfEight_20 : decode cX0_leastRowOfEight 20 = .ok (.goto 119, 3) := by decide +kernel
theorem dX0_leastRowOfEight_23 : decode cX0_leastRowOfEight 23 = .ok (.iload 4, 2) := by decide +kernel
theorem dX0_leastRowOfEight_25 : decode cX0_leastRowOfEight 25 = .ok (.iload_n 2, 1) := by decide +kernel
theorem dX0_leastRowOfEight_26 : decode cX0_leastRowOfEight 26 = .ok (.invokestatic 44, 3) := by decide +kernel
theorem dX0_leastRowOfEight_29 : decode cX0_leastRowOfEight 29 = .ok (.iconst 1, 1) := by decide +kernel
theorem dX0_leastRowOfEight_30 : decode cX0_leastRowOfEight 30 = .ok (.if_icmp .ne 7, 3) := by decide +kernel
theorem dX0_leastRowOfEight_33 : decode cX0_leastRowOfEight 33 = .ok (.iconst 1, 1) := by decide +kernel
theorem dX0_leastRowOfEight_34 : decode cX0_leastRowOfEight 34 = .ok (.goto 4, 3) := by decide +kernel
theorem dX0_leastRowOfEight_37 : decode cX0_leastRowOfEight 37 = .ok (.iconst 0, 1) := by decide +kernel
theorem dX0_leastRowOfEight_38 : decode cX0_leastRowOfEight 38 = .ok (.istore 5, 2) := by decide +kernel
theorem dX0_leastRowOfEight_40 : decode cX0_leastRowOfEight 40 = .ok (.aload_n 0, 1) := by decide +kernel
theorem dX0_leastRowOfEight_41 : decode cX0_leastRowOfEight 41 = .ok (.iload 4, 2) := by decide +kernel
theorem dX0_leastRowOfEight_43 : decode cX0_leastRowOfEight 43 = .ok (.iload 5, 2) := by decide +kernel
theorem dX0_leastRowOfEight_45 : decode cX0_leastRowOfEight 45 = .ok (.ifCond .eq 9, 3) := by decide +kernel
theorem dX0_leastRowOfEight_48 : decode cX0_leastRowOfEight 48 = .ok (.iconst 1, 1) := by decide +kernel
theorem dX0_leastRowOfEight_49 : decode cX0_leastRowOfEight 49 = .ok (.iload_n 2, 1) := by decide +kernel
theorem dX0_leastRowOfEight_50 : decode cX0_leastRowOfEight 50 = .ok (.ishl, 1) := by decide +kernel
theorem dX0_leastRowOfEight_51 : decode cX0_leastRowOfEight 51 = .ok (.goto 12, 3) := by decide +kernel
theorem dX0_leastRowOfEight_54 : decode cX0_leastRowOfEight 54 = .ok (.aload_n 0, 1) := by decide +kernel
theorem dX0_leastRowOfEight_55 : decode cX0_leastRowOfEight 55 = .ok (.getfield 15, 3) := by decide +kernel
theorem dX0_leastRowOfEight_58 : decode cX0_leastRowOfEight 58 = .ok (.getfield 53, 3) := by decide +kernel
theorem dX0_leastRowOfEight_61 : decode cX0_leastRowOfEight 61 = .ok (.iload_n 2, 1) := by decide +kernel
theorem dX0_leastRowOfEight_62 : decode cX0_leastRowOfEight 62 = .ok (.iaload, 1) := by decide +kernel
theorem dX0_leastRowOfEight_63 : decode cX0_leastRowOfEight 63 = .ok (.invokevirtual 66, 3) := by decide +kernel
theorem dX0_leastRowOfEight_66 : decode cX0_leastRowOfEight 66 = .ok (.istore 6, 2) := by decide +kernel
theorem dX0_leastRowOfEight_68 : decode cX0_leastRowOfEight 68 = .ok (.aload_n 0, 1) := by decide +kernel
theorem dX0_leastRowOfEight_69 : decode cX0_leastRowOfEight 69 = .ok (.iload_n 1, 1) := by decide +kernel
theorem dX0_leastRowOfEight_70 : decode cX0_leastRowOfEight 70 = .ok (.iload 4, 2) := by decide +kernel
theorem dX0_leastRowOfEight_72 : decode cX0_leastRowOfEight 72 = .ok (.iconst (-1), 1) := by decide +kernel
theorem dX0_leastRowOfEight_73 : decode cX0_leastRowOfEight 73 = .ok (.ixor, 1) := by decide +kernel
theorem dX0_leastRowOfEight_74 : decode cX0_leastRowOfEight 74 = .ok (.iand, 1) := by decide +kernel
theorem dX0_leastRowOfEight_75 : decode cX0_leastRowOfEight 75 = .ok (.iload 5, 2) := by decide +kernel
theorem dX0_leastRowOfEight_77 : decode cX0_leastRowOfEight 77 = .ok (.ifCond .eq 15, 3) := by decide +kernel
theorem dX0_leastRowOfEight_80 : decode cX0_leastRowOfEight 80 = .ok (.aload_n 0, 1) := by decide +kernel
theorem dX0_leastRowOfEight_81 : decode cX0_leastRowOfEight 81 = .ok (.getfield 15, 3) := by decide +kernel
theorem dX0_leastRowOfEight_84 : decode cX0_leastRowOfEight 84 = .ok (.getfield 53, 3) := by decide +kernel
theorem dX0_leastRowOfEight_87 : decode cX0_leastRowOfEight 87 = .ok (.iload_n 2, 1) := by decide +kernel
theorem dX0_leastRowOfEight_88 : decode cX0_leastRowOfEight 88 = .ok (.iaload, 1) := by decide +kernel
theorem dX0_leastRowOfEight_89 : decode cX0_leastRowOfEight 89 = .ok (.goto 6, 3) := by decide +kernel
theorem dX0_leastRowOfEight_92 : decode cX0_leastRowOfEight 92 = .ok (.iconst 1, 1) := by decide +kernel
theorem dX0_leastRowOfEight_93 : decode cX0_leastRowOfEight 93 = .ok (.iload_n 2, 1) := by decide +kernel
theorem dX0_leastRowOfEight_94 : decode cX0_leastRowOfEight 94 = .ok (.ishl, 1) := by decide +kernel
theorem dX0_leastRowOfEight_95 : decode cX0_leastRowOfEight 95 = .ok (.invokevirtual 66, 3) := by decide +kernel
theorem dX0_leastRowOfEight_98 : decode cX0_leastRowOfEight 98 = .ok (.istore 7, 2) := by decide +kernel
theorem dX0_leastRowOfEight_100 : decode cX0_leastRowOfEight 100 = .ok (.iload 6, 2) := by decide +kernel
theorem dX0_leastRowOfEight_102 : decode cX0_leastRowOfEight 102 = .ok (.iconst (-1), 1) := by decide +kernel
theorem dX0_leastRowOfEight_103 : decode cX0_leastRowOfEight 103 = .ok (.if_icmp .eq 36, 3) := by decide +kernel
theorem dX0_leastRowOfEight_106 : decode cX0_leastRowOfEight 106 = .ok (.iload 7, 2) := by decide +kernel
theorem dX0_leastRowOfEight_108 : decode cX0_leastRowOfEight 108 = .ok (.iconst (-1), 1) := by decide +kernel
theorem dX0_leastRowOfEight_109 : decode cX0_leastRowOfEight 109 = .ok (.if_icmp .ne 6, 3) := by decide +kernel
theorem dX0_leastRowOfEight_112 : decode cX0_leastRowOfEight 112 = .ok (.goto 27, 3) := by decide +kernel
theorem dX0_leastRowOfEight_115 : decode cX0_leastRowOfEight 115 = .ok (.iload 6, 2) := by decide +kernel
theorem dX0_leastRowOfEight_117 : decode cX0_leastRowOfEight 117 = .ok (.bipush 12, 2) := by decide +kernel
theorem dX0_leastRowOfEight_119 : decode cX0_leastRowOfEight 119 = .ok (.ishl, 1) := by decide +kernel
theorem dX0_leastRowOfEight_120 : decode cX0_leastRowOfEight 120 = .ok (.iload 7, 2) := by decide +kernel
theorem dX0_leastRowOfEight_122 : decode cX0_leastRowOfEight 122 = .ok (.ior, 1) := by decide +kernel
theorem dX0_leastRowOfEight_123 : decode cX0_leastRowOfEight 123 = .ok (.istore 8, 2) := by decide +kernel
theorem dX0_leastRowOfEight_125 : decode cX0_leastRowOfEight 125 = .ok (.iload_n 3, 1) := by decide +kernel
theorem dX0_leastRowOfEight_126 : decode cX0_leastRowOfEight 126 = .ok (.iconst (-1), 1) := by decide +kernel
theorem dX0_leastRowOfEight_127 : decode cX0_leastRowOfEight 127 = .ok (.if_icmp .eq 9, 3) := by decide +kernel
theorem dX0_leastRowOfEight_130 : decode cX0_leastRowOfEight 130 = .ok (.iload 8, 2) := by decide +kernel
theorem dX0_leastRowOfEight_132 : decode cX0_leastRowOfEight 132 = .ok (.iload_n 3, 1) := by decide +kernel
theorem dX0_leastRowOfEight_133 : decode cX0_leastRowOfEight 133 = .ok (.if_icmp .ge 6, 3) := by decide +kernel
theorem dX0_leastRowOfEight_136 : decode cX0_leastRowOfEight 136 = .ok (.iload 8, 2) := by decide +kernel
theorem dX0_leastRowOfEight_138 : decode cX0_leastRowOfEight 138 = .ok (.istore_n 3, 1) := by decide +kernel
theorem dX0_leastRowOfEight_139 : decode cX0_leastRowOfEight 139 = .ok (.iinc 4 2, 3) := by decide +kernel
theorem dX0_leastRowOfEight_142 : decode cX0_leastRowOfEight 142 = .ok (.goto (-137), 3) := by decide +kernel
theorem dX0_leastRowOfEight_145 : decode cX0_leastRowOfEight 145 = .ok (.iload_n 3, 1) := by decide +kernel
theorem dX0_leastRowOfEight_146 : decode cX0_leastRowOfEight 146 = .ok (.ireturn, 1) := by decide +kernel
theorem dX0_placeIn_0 : decode cX0_placeIn 0 = .ok (.iload_n 1, 1) := by decide +kernel
theorem dX0_placeIn_1 : decode cX0_placeIn 1 = .ok (.iconst 3, 1) := by decide +kernel
theorem dX0_placeIn_2 : decode cX0_placeIn 2 = .ok (.iload_n 3, 1) := by decide +kernel
theorem dX0_placeIn_3 : decode cX0_placeIn 3 = .ok (.iconst 1, 1) := by decide +kernel
theorem dX0_placeIn_4 : decode cX0_placeIn 4 = .ok (.isub, 1) := by decide +kernel
theorem dX0_placeIn_5 : decode cX0_placeIn 5 = .ok (.iload_n 2, 1) := by decide +kernel
theorem dX0_placeIn_6 : decode cX0_placeIn 6 = .ok (.isub, 1) := by decide +kernel
theorem dX0_placeIn_7 : decode cX0_placeIn 7 = .ok (.imul, 1) := by decide +kernel
theorem dX0_placeIn_8 : decode cX0_placeIn 8 = .ok (.ishr, 1) := by decide +kernel
theorem dX0_placeIn_9 : decode cX0_placeIn 9 = .ok (.bipush 7, 2) := by decide +kernel
theorem dX0_placeIn_11 : decode cX0_placeIn 11 = .ok (.iand, 1) := by decide +kernel
theorem dX0_placeIn_12 : decode cX0_placeIn 12 = .ok (.ireturn, 1) := by decide +kernel
theorem dX0_playWithFirst_0 : decode cX0_playWithFirst 0 = .ok (.aload_n 0, 1) := by decide +kernel
theorem dX0_playWithFirst_1 : decode cX0_playWithFirst 1 = .ok (.iload_n 1, 1) := by decide +kernel
theorem dX0_playWithFirst_2 : decode cX0_playWithFirst 2 = .ok (.iconst 0, 1) := by decide +kernel
theorem dX0_playWithFirst_3 : decode cX0_playWithFirst 3 = .ok (.invokevirtual 25, 3) := by decide +kernel
theorem dX0_playWithFirst_6 : decode cX0_playWithFirst 6 = .ok (.istore_n 2, 1) := by decide +kernel
theorem dX0_playWithFirst_7 : decode cX0_playWithFirst 7 = .ok (.aload_n 0, 1) := by decide +kernel
theorem dX0_playWithFirst_8 : decode cX0_playWithFirst 8 = .ok (.aload_n 0, 1) := by decide +kernel
theorem dX0_playWithFirst_9 : decode cX0_playWithFirst 9 = .ok (.getfield 15, 3) := by decide +kernel
theorem dX0_playWithFirst_12 : decode cX0_playWithFirst 12 = .ok (.invokevirtual 56, 3) := by decide +kernel
theorem dX0_playWithFirst_15 : decode cX0_playWithFirst 15 = .ok (.iload_n 1, 1) := by decide +kernel
theorem dX0_playWithFirst_16 : decode cX0_playWithFirst 16 = .ok (.iconst (-1), 1) := by decide +kernel
theorem dX0_playWithFirst_17 : decode cX0_playWithFirst 17 = .ok (.ixor, 1) := by decide +kernel
theorem dX0_playWithFirst_18 : decode cX0_playWithFirst 18 = .ok (.iand, 1) := by decide +kernel
theorem dX0_playWithFirst_19 : decode cX0_playWithFirst 19 = .ok (.iload_n 2, 1) := by decide +kernel
theorem dX0_playWithFirst_20 : decode cX0_playWithFirst 20 = .ok (.invokevirtual 25, 3) := by decide +kernel
theorem dX0_playWithFirst_23 : decode cX0_playWithFirst 23 = .ok (.pop, 1) := by decide +kernel
theorem dX0_playWithFirst_24 : decode cX0_playWithFirst 24 = .ok (.aload_n 0, 1) := by decide +kernel
theorem dX0_playWithFirst_25 : decode cX0_playWithFirst 25 = .ok (.getfield 15, 3) := by decide +kernel
theorem dX0_playWithFirst_28 : decode cX0_playWithFirst 28 = .ok (.getfield 40, 3) := by decide +kernel
theorem dX0_playWithFirst_31 : decode cX0_playWithFirst 31 = .ok (.iconst 2, 1) := by decide +kernel
theorem dX0_playWithFirst_32 : decode cX0_playWithFirst 32 = .ok (.idiv, 1) := by decide +kernel
theorem dX0_playWithFirst_33 : decode cX0_playWithFirst 33 = .ok (.istore_n 3, 1) := by decide +kernel
theorem dX0_playWithFirst_34 : decode cX0_playWithFirst 34 = .ok (.iload_n 3, 1) := by decide +kernel
theorem dX0_playWithFirst_35 : decode cX0_playWithFirst 35 = .ok (.iconst 1, 1) := by decide +kernel
theorem dX0_playWithFirst_36 : decode cX0_playWithFirst 36 = .ok (.if_icmp .lt 59, 3) := by decide +kernel
theorem dX0_playWithFirst_39 : decode cX0_playWithFirst 39 = .ok (.iconst 0, 1) := by decide +kernel
theorem dX0_playWithFirst_40 : decode cX0_playWithFirst 40 = .ok (.istore 4, 2) := by decide +kernel
theorem dX0_playWithFirst_42 : decode cX0_playWithFirst 42 = .ok (.iload 4, 2) := by decide +kernel
theorem dX0_playWithFirst_44 : decode cX0_playWithFirst 44 = .ok (.iload_n 3, 1) := by decide +kernel
theorem dX0_playWithFirst_45 : decode cX0_playWithFirst 45 = .ok (.if_icmp .ge 43, 3) := by decide +kernel
theorem dX0_playWithFirst_48 : decode cX0_playWithFirst 48 = .ok (.aload_n 0, 1) := by decide +kernel
theorem dX0_playWithFirst_49 : decode cX0_playWithFirst 49 = .ok (.getfield 9, 3) := by decide +kernel
theorem dX0_playWithFirst_52 : decode cX0_playWithFirst 52 = .ok (.iload 4, 2) := by decide +kernel
theorem dX0_playWithFirst_54 : decode cX0_playWithFirst 54 = .ok (.aload_n 0, 1) := by decide +kernel
theorem dX0_playWithFirst_55 : decode cX0_playWithFirst 55 = .ok (.getfield 15, 3) := by decide +kernel
theorem dX0_playWithFirst_58 : decode cX0_playWithFirst 58 = .ok (.aload_n 0, 1) := by decide +kernel
theorem dX0_playWithFirst_59 : decode cX0_playWithFirst 59 = .ok (.getfield 9, 3) := by decide +kernel
theorem dX0_playWithFirst_62 : decode cX0_playWithFirst 62 = .ok (.iconst 2, 1) := by decide +kernel
theorem dX0_playWithFirst_63 : decode cX0_playWithFirst 63 = .ok (.iload 4, 2) := by decide +kernel
theorem dX0_playWithFirst_65 : decode cX0_playWithFirst 65 = .ok (.imul, 1) := by decide +kernel
theorem dX0_playWithFirst_66 : decode cX0_playWithFirst 66 = .ok (.iaload, 1) := by decide +kernel
theorem dX0_playWithFirst_67 : decode cX0_playWithFirst 67 = .ok (.aload_n 0, 1) := by decide +kernel
theorem dX0_playWithFirst_68 : decode cX0_playWithFirst 68 = .ok (.getfield 9, 3) := by decide +kernel
theorem dX0_playWithFirst_71 : decode cX0_playWithFirst 71 = .ok (.iconst 2, 1) := by decide +kernel
theorem dX0_playWithFirst_72 : decode cX0_playWithFirst 72 = .ok (.iload 4, 2) := by decide +kernel
theorem dX0_playWithFirst_74 : decode cX0_playWithFirst 74 = .ok (.imul, 1) := by decide +kernel
theorem dX0_playWithFirst_75 : decode cX0_playWithFirst 75 = .ok (.iconst 1, 1) := by decide +kernel
theorem dX0_playWithFirst_76 : decode cX0_playWithFirst 76 = .ok (.iadd, 1) := by decide +kernel
theorem dX0_playWithFirst_77 : decode cX0_playWithFirst 77 = .ok (.iaload, 1) := by decide +kernel
theorem dX0_playWithFirst_78 : decode cX0_playWithFirst 78 = .ok (.invokevirtual 29, 3) := by decide +kernel
theorem dX0_playWithFirst_81 : decode cX0_playWithFirst 81 = .ok (.iastore, 1) := by decide +kernel
theorem dX0_playWithFirst_82 : decode cX0_playWithFirst 82 = .ok (.iinc 4 1, 3) := by decide +kernel
theorem dX0_playWithFirst_85 : decode cX0_playWithFirst 85 = .ok (.goto (-43), 3) := by decide +kernel
theorem dX0_playWithFirst_88 : decode cX0_playWithFirst 88 = .ok (.iload_n 3, 1) := by decide +kernel
theorem dX0_playWithFirst_89 : decode cX0_playWithFirst 89 = .ok (.iconst 2, 1) := by decide +kernel
theorem dX0_playWithFirst_90 : decode cX0_playWithFirst 90 = .ok (.idiv, 1) := by decide +kernel
theorem dX0_playWithFirst_91 : decode cX0_playWithFirst 91 = .ok (.istore_n 3, 1) := by decide +kernel
theorem dX0_playWithFirst_92 : decode cX0_playWithFirst 92 = .ok (.goto (-58), 3) := by decide +kernel
theorem dX0_playWithFirst_95 : decode cX0_playWithFirst 95 = .ok (.aload_n 0, 1) := by decide +kernel
theorem dX0_playWithFirst_96 : decode cX0_playWithFirst 96 = .ok (.getfield 9, 3) := by decide +kernel
theorem dX0_playWithFirst_99 : decode cX0_playWithFirst 99 = .ok (.iconst 0, 1) := by decide +kernel
theorem dX0_playWithFirst_100 : decode cX0_playWithFirst 100 = .ok (.iaload, 1) := by decide +kernel
theorem dX0_playWithFirst_101 : decode cX0_playWithFirst 101 = .ok (.ireturn, 1) := by decide +kernel
theorem dX1_init_0 : decode cX1_init 0 = .ok (.aload_n 0, 1) := by decide +kernel
theorem dX1_init_1 : decode cX1_init 1 = .ok (.invokespecial 3, 3) := by decide +kernel
theorem dX1_init_4 : decode cX1_init 4 = .ok (.aload_n 0, 1) := by decide +kernel
theorem dX1_init_5 : decode cX1_init 5 = .ok (.bipush 8, 2) := by decide +kernel
theorem dX1_init_7 : decode cX1_init 7 = .ok (.newarray .int, 2) := by decide +kernel
theorem dX1_init_9 : decode cX1_init 9 = .ok (.putfield 9, 3) := by decide +kernel
theorem dX1_init_12 : decode cX1_init 12 = .ok (.return_, 1) := by decide +kernel
theorem dX1_clear_0 : decode cX1_clear 0 = .ok (.aload_n 0, 1) := by decide +kernel
theorem dX1_clear_1 : decode cX1_clear 1 = .ok (.iconst 0, 1) := by decide +kernel
theorem dX1_clear_2 : decode cX1_clear 2 = .ok (.putfield 15, 3) := by decide +kernel
theorem dX1_clear_5 : decode cX1_clear 5 = .ok (.iconst 0, 1) := by decide +kernel
theorem dX1_clear_6 : decode cX1_clear 6 = .ok (.istore_n 1, 1) := by decide +kernel
theorem dX1_clear_7 : decode cX1_clear 7 = .ok (.iload_n 1, 1) := by decide +kernel
theorem dX1_clear_8 : decode cX1_clear 8 = .ok (.bipush 8, 2) := by decide +kernel
theorem dX1_clear_10 : decode cX1_clear 10 = .ok (.if_icmp .ge 16, 3) := by decide +kernel
theorem dX1_clear_13 : decode cX1_clear 13 = .ok (.aload_n 0, 1) := by decide +kernel
theorem dX1_clear_14 : decode cX1_clear 14 = .ok (.getfield 9, 3) := by decide +kernel
theorem dX1_clear_17 : decode cX1_clear 17 = .ok (.iload_n 1, 1) := by decide +kernel
theorem dX1_clear_18 : decode cX1_clear 18 = .ok (.iconst 0, 1) := by decide +kernel
theorem dX1_clear_19 : decode cX1_clear 19 = .ok (.iastore, 1) := by decide +kernel
theorem dX1_clear_20 : decode cX1_clear 20 = .ok (.iinc 1 1, 3) := by decide +kernel
theorem dX1_clear_23 : decode cX1_clear 23 = .ok (.goto (-16), 3) := by decide +kernel
theorem dX1_clear_26 : decode cX1_clear 26 = .ok (.return_, 1) := by decide +kernel
theorem dX1_isPlayer_0 : decode cX1_isPlayer 0 = .ok (.iload_n 1, 1) := by decide +kernel
theorem dX1_isPlayer_1 : decode cX1_isPlayer 1 = .ok (.ifCond .lt 15, 3) := by decide +kernel
theorem dX1_isPlayer_4 : decode cX1_isPlayer 4 = .ok (.iload_n 1, 1) := by decide +kernel
theorem dX1_isPlayer_5 : decode cX1_isPlayer 5 = .ok (.aload_n 0, 1) := by decide +kernel
theorem dX1_isPlayer_6 : decode cX1_isPlayer 6 = .ok (.getfield 15, 3) := by decide +kernel
theorem dX1_isPlayer_9 : decode cX1_isPlayer 9 = .ok (.if_icmp .ge 7, 3) := by decide +kernel
theorem dX1_isPlayer_12 : decode cX1_isPlayer 12 = .ok (.iconst 1, 1) := by decide +kernel
theorem dX1_isPlayer_13 : decode cX1_isPlayer 13 = .ok (.goto 4, 3) := by decide +kernel
theorem dX1_isPlayer_16 : decode cX1_isPlayer 16 = .ok (.iconst 0, 1) := by decide +kernel
theorem dX1_isPlayer_17 : decode cX1_isPlayer 17 = .ok (.ireturn, 1) := by decide +kernel
theorem dX1_everybody_0 : decode cX1_everybody 0 = .ok (.iconst 1, 1) := by decide +kernel
theorem dX1_everybody_1 : decode cX1_everybody 1 = .ok (.aload_n 0, 1) := by decide +kernel
theorem dX1_everybody_2 : decode cX1_everybody 2 = .ok (.getfield 15, 3) := by decide +kernel
theorem dX1_everybody_5 : decode cX1_everybody 5 = .ok (.ishl, 1) := by decide +kernel
theorem dX1_everybody_6 : decode cX1_everybody 6 = .ok (.iconst 1, 1) := by decide +kernel
theorem dX1_everybody_7 : decode cX1_everybody 7 = .ok (.isub, 1) := by decide +kernel
theorem dX1_everybody_8 : decode cX1_everybody 8 = .ok (.ireturn, 1) := by decide +kernel
theorem dX1_arePlayers_0 : decode cX1_arePlayers 0 = .ok (.iload_n 1, 1) := by decide +kernel
theorem dX1_arePlayers_1 : decode cX1_arePlayers 1 = .ok (.aload_n 0, 1) := by decide +kernel
theorem dX1_arePlayers_2 : decode cX1_arePlayers 2 = .ok (.invokevirtual 19, 3) := by decide +kernel
theorem dX1_arePlayers_5 : decode cX1_arePlayers 5 = .ok (.iconst (-1), 1) := by decide +kernel
theorem dX1_arePlayers_6 : decode cX1_arePlayers 6 = .ok (.ixor, 1) := by decide +kernel
theorem dX1_arePlayers_7 : decode cX1_arePlayers 7 = .ok (.iand, 1) := by decide +kernel
theorem dX1_arePlayers_8 : decode cX1_arePlayers 8 = .ok (.ifCond .ne 7, 3) := by decide +kernel
theorem dX1_arePlayers_11 : decode cX1_arePlayers 11 = .ok (.iconst 1, 1) := by decide +kernel
theorem dX1_arePlayers_12 : decode cX1_arePlayers 12 = .ok (.goto 4, 3) := by decide +kernel
theorem dX1_arePlayers_15 : decode cX1_arePlayers 15 = .ok (.iconst 0, 1) := by decide +kernel
theorem dX1_arePlayers_16 : decode cX1_arePlayers 16 = .ok (.ireturn, 1) := by decide +kernel
theorem dX1_isBeating_0 : decode cX1_isBeating 0 = .ok (.aload_n 0, 1) := by decide +kernel
theorem dX1_isBeating_1 : decode cX1_isBeating 1 = .ok (.getfield 9, 3) := by decide +kernel
theorem dX1_isBeating_4 : decode cX1_isBeating 4 = .ok (.iload_n 1, 1) := by decide +kernel
theorem dX1_isBeating_5 : decode cX1_isBeating 5 = .ok (.iaload, 1) := by decide +kernel
theorem dX1_isBeating_6 : decode cX1_isBeating 6 = .ok (.iload_n 2, 1) := by decide +kernel
theorem dX1_isBeating_7 : decode cX1_isBeating 7 = .ok (.ishr, 1) := by decide +kernel
theorem dX1_isBeating_8 : decode cX1_isBeating 8 = .ok (.iconst 1, 1) := by decide +kernel
theorem dX1_isBeating_9 : decode cX1_isBeating 9 = .ok (.iand, 1) := by decide +kernel
theorem dX1_isBeating_10 : decode cX1_isBeating 10 = .ok (.iconst 1, 1) := by decide +kernel
theorem dX1_isBeating_11 : decode cX1_isBeating 11 = .ok (.if_icmp .ne 7, 3) := by decide +kernel
theorem dX1_isBeating_14 : decode cX1_isBeating 14 = .ok (.iconst 1, 1) := by decide +kernel
theorem dX1_isBeating_15 : decode cX1_isBeating 15 = .ok (.goto 4, 3) := by decide +kernel
theorem dX1_isBeating_18 : decode cX1_isBeating 18 = .ok (.iconst 0, 1) := by decide +kernel
theorem dX1_isBeating_19 : decode cX1_isBeating 19 = .ok (.ireturn, 1) := by decide +kernel
theorem dX1_isTold_0 : decode cX1_isTold 0 = .ok (.aload_n 0, 1) := by decide +kernel
theorem dX1_isTold_1 : decode cX1_isTold 1 = .ok (.iload_n 1, 1) := by decide +kernel
theorem dX1_isTold_2 : decode cX1_isTold 2 = .ok (.iload_n 2, 1) := by decide +kernel
theorem dX1_isTold_3 : decode cX1_isTold 3 = .ok (.invokevirtual 23, 3) := by decide +kernel
theorem dX1_isTold_6 : decode cX1_isTold 6 = .ok (.ifCond .ne 12, 3) := by decide +kernel
theorem dX1_isTold_9 : decode cX1_isTold 9 = .ok (.aload_n 0, 1) := by decide +kernel
theorem dX1_isTold_10 : decode cX1_isTold 10 = .ok (.iload_n 2, 1) := by decide +kernel
theorem dX1_isTold_11 : decode cX1_isTold 11 = .ok (.iload_n 1, 1) := by decide +kernel
theorem dX1_isTold_12 : decode cX1_isTold 12 = .ok (.invokevirtual 23, 3) := by decide +kernel
theorem dX1_isTold_15 : decode cX1_isTold 15 = .ok (.ifCond .eq 7, 3) := by decide +kernel
theorem dX1_isTold_18 : decode cX1_isTold 18 = .ok (.iconst 1, 1) := by decide +kernel
theorem dX1_isTold_19 : decode cX1_isTold 19 = .ok (.goto 4, 3) := by decide +kernel
theorem dX1_isTold_22 : decode cX1_isTold 22 = .ok (.iconst 0, 1) := by decide +kernel
theorem dX1_isTold_23 : decode cX1_isTold 23 = .ok (.ireturn, 1) := by decide +kernel
theorem dX1_winnerOf_0 : decode cX1_winnerOf 0 = .ok (.aload_n 0, 1) := by decide +kernel
theorem dX1_winnerOf_1 : decode cX1_winnerOf 1 = .ok (.getfield 9, 3) := by decide +kernel
theorem dX1_winnerOf_4 : decode cX1_winnerOf 4 = .ok (.iload_n 1, 1) := by decide +kernel
theorem dX1_winnerOf_5 : decode cX1_winnerOf 5 = .ok (.iaload, 1) := by decide +kernel
theorem dX1_winnerOf_6 : decode cX1_winnerOf 6 = .ok (.iload_n 2, 1) := by decide +kernel
theorem dX1_winnerOf_7 : decode cX1_winnerOf 7 = .ok (.ishr, 1) := by decide +kernel
theorem dX1_winnerOf_8 : decode cX1_winnerOf 8 = .ok (.iconst 1, 1) := by decide +kernel
theorem dX1_winnerOf_9 : decode cX1_winnerOf 9 = .ok (.iand, 1) := by decide +kernel
theorem dX1_winnerOf_10 : decode cX1_winnerOf 10 = .ok (.iconst 1, 1) := by decide +kernel
theorem dX1_winnerOf_11 : decode cX1_winnerOf 11 = .ok (.if_icmp .ne 7, 3) := by decide +kernel
theorem dX1_winnerOf_14 : decode cX1_winnerOf 14 = .ok (.iload_n 1, 1) := by decide +kernel
theorem dX1_winnerOf_15 : decode cX1_winnerOf 15 = .ok (.goto 4, 3) := by decide +kernel
theorem dX1_winnerOf_18 : decode cX1_winnerOf 18 = .ok (.iload_n 2, 1) := by decide +kernel
theorem dX1_winnerOf_19 : decode cX1_winnerOf 19 = .ok (.ireturn, 1) := by decide +kernel
theorem dX1_beatersOf_0 : decode cX1_beatersOf 0 = .ok (.iload_n 2, 1) := by decide +kernel
theorem dX1_beatersOf_1 : decode cX1_beatersOf 1 = .ok (.aload_n 0, 1) := by decide +kernel
theorem dX1_beatersOf_2 : decode cX1_beatersOf 2 = .ok (.getfield 9, 3) := by decide +kernel
theorem dX1_beatersOf_5 : decode cX1_beatersOf 5 = .ok (.iload_n 1, 1) := by decide +kernel
theorem dX1_beatersOf_6 : decode cX1_beatersOf 6 = .ok (.iaload, 1) := by decide +kernel
theorem dX1_beatersOf_7 : decode cX1_beatersOf 7 = .ok (.iconst (-1), 1) := by decide +kernel
theorem dX1_beatersOf_8 : decode cX1_beatersOf 8 = .ok (.ixor, 1) := by decide +kernel
theorem dX1_beatersOf_9 : decode cX1_beatersOf 9 = .ok (.iand, 1) := by decide +kernel
theorem dX1_beatersOf_10 : decode cX1_beatersOf 10 = .ok (.iconst 1, 1) := by decide +kernel
theorem dX1_beatersOf_11 : decode cX1_beatersOf 11 = .ok (.iload_n 1, 1) := by decide +kernel
theorem dX1_beatersOf_12 : decode cX1_beatersOf 12 = .ok (.ishl, 1) := by decide +kernel
theorem dX1_beatersOf_13 : decode cX1_beatersOf 13 = .ok (.iconst (-1), 1) := by decide +kernel
theorem dX1_beatersOf_14 : decode cX1_beatersOf 14 = .ok (.ixor, 1) := by decide +kernel
theorem dX1_beatersOf_15 : decode cX1_beatersOf 15 = .ok (.iand, 1) := by decide +kernel
theorem dX1_beatersOf_16 : decode cX1_beatersOf 16 = .ok (.ireturn, 1) := by decide +kernel
theorem dX1_unbeatenOf_0 : decode cX1_unbeatenOf 0 = .ok (.iconst 0, 1) := by decide +kernel
theorem dX1_unbeatenOf_1 : decode cX1_unbeatenOf 1 = .ok (.istore_n 2, 1) := by decide +kernel
theorem dX1_unbeatenOf_2 : decode cX1_unbeatenOf 2 = .ok (.iload_n 2, 1) := by decide +kernel
theorem dX1_unbeatenOf_3 : decode cX1_unbeatenOf 3 = .ok (.aload_n 0, 1) := by decide +kernel
theorem dX1_unbeatenOf_4 : decode cX1_unbeatenOf 4 = .ok (.getfield 15, 3) := by decide +kernel
theorem dX1_unbeatenOf_7 : decode cX1_unbeatenOf 7 = .ok (.if_icmp .ge 31, 3) := by decide +kernel
theorem dX1_unbeatenOf_10 : decode cX1_unbeatenOf 10 = .ok (.iload_n 1, 1) := by decide +kernel
theorem dX1_unbeatenOf_11 : decode cX1_unbeatenOf 11 = .ok (.iload_n 2, 1) := by decide +kernel
theorem dX1_unbeatenOf_12 : decode cX1_unbeatenOf 12 = .ok (.invokestatic 27, 3) := by decide +kernel
theorem dX1_unbeatenOf_15 : decode cX1_unbeatenOf 15 = .ok (.iconst 1, 1) := by decide +kernel
theorem dX1_unbeatenOf_16 : decode cX1_unbeatenOf 16 = .ok (.if_icmp .ne 16, 3) := by decide +kernel
theorem dX1_unbeatenOf_19 : decode cX1_unbeatenOf 19 = .ok (.aload_n 0, 1) := by decide +kernel
theorem dX1_unbeatenOf_20 : decode cX1_unbeatenOf 20 = .ok (.iload_n 2, 1) := by decide +kernel
theorem dX1_unbeatenOf_21 : decode cX1_unbeatenOf 21 = .ok (.iload_n 1, 1) := by decide +kernel
theorem dX1_unbeatenOf_22 : decode cX1_unbeatenOf 22 = .ok (.invokevirtual 31, 3) := by decide +kernel
theorem dX1_unbeatenOf_25 : decode cX1_unbeatenOf 25 = .ok (.ifCond .ne 7, 3) := by decide +kernel
theorem dX1_unbeatenOf_28 : decode cX1_unbeatenOf 28 = .ok (.iconst 1, 1) := by decide +kernel
theorem dX1_unbeatenOf_29 : decode cX1_unbeatenOf 29 = .ok (.iload_n 2, 1) := by decide +kernel
theorem dX1_unbeatenOf_30 : decode cX1_unbeatenOf 30 = .ok (.ishl, 1) := by decide +kernel
theorem dX1_unbeatenOf_31 : decode cX1_unbeatenOf 31 = .ok (.ireturn, 1) := by decide +kernel
theorem dX1_unbeatenOf_32 : decode cX1_unbeatenOf 32 = .ok (.iinc 2 1, 3) := by decide +kernel
theorem dX1_unbeatenOf_35 : decode cX1_unbeatenOf 35 = .ok (.goto (-33), 3) := by decide +kernel
theorem dX1_unbeatenOf_38 : decode cX1_unbeatenOf 38 = .ok (.iconst 0, 1) := by decide +kernel
theorem dX1_unbeatenOf_39 : decode cX1_unbeatenOf 39 = .ok (.ireturn, 1) := by decide +kernel
theorem dX1_arrows_0 : decode cX1_arrows 0 = .ok (.aload_n 0, 1) := by decide +kernel
theorem dX1_arrows_1 : decode cX1_arrows 1 = .ok (.getfield 15, 3) := by decide +kernel
theorem dX1_arrows_4 : decode cX1_arrows 4 = .ok (.aload_n 0, 1) := by decide +kernel
theorem dX1_arrows_5 : decode cX1_arrows 5 = .ok (.getfield 15, 3) := by decide +kernel
theorem dX1_arrows_8 : decode cX1_arrows 8 = .ok (.iconst 1, 1) := by decide +kernel
theorem dX1_arrows_9 : decode cX1_arrows 9 = .ok (.isub, 1) := by decide +kernel
theorem dX1_arrows_10 : decode cX1_arrows 10 = .ok (.imul, 1) := by decide +kernel
theorem dX1_arrows_11 : decode cX1_arrows 11 = .ok (.iconst 2, 1) := by decide +kernel
theorem dX1_arrows_12 : decode cX1_arrows 12 = .ok (.idiv, 1) := by decide +kernel
theorem dX1_arrows_13 : decode cX1_arrows 13 = .ok (.ireturn, 1) := by decide +kernel
theorem dX1_arrowsTold_0 : decode cX1_arrowsTold 0 = .ok (.iconst 0, 1) := by decide +kernel
theorem dX1_arrowsTold_1 : decode cX1_arrowsTold 1 = .ok (.istore_n 1, 1) := by decide +kernel
theorem dX1_arrowsTold_2 : decode cX1_arrowsTold 2 = .ok (.iconst 0, 1) := by decide +kernel
theorem dX1_arrowsTold_3 : decode cX1_arrowsTold 3 = .ok (.istore_n 2, 1) := by decide +kernel
theorem dX1_arrowsTold_4 : decode cX1_arrowsTold 4 = .ok (.iload_n 2, 1) := by decide +kernel
theorem dX1_arrowsTold_5 : decode cX1_arrowsTold 5 = .ok (.bipush 8, 2) := by decide +kernel
theorem dX1_arrowsTold_7 : decode cX1_arrowsTold 7 = .ok (.if_icmp .ge 21, 3) := by decide +kernel
theorem dX1_arrowsTold_10 : decode cX1_arrowsTold 10 = .ok (.iload_n 1, 1) := by decide +kernel
theorem dX1_arrowsTold_11 : decode cX1_arrowsTold 11 = .ok (.aload_n 0, 1) := by decide +kernel
theorem dX1_arrowsTold_12 : decode cX1_arrowsTold 12 = .ok (.getfield 9, 3) := by decide +kernel
theorem dX1_arrowsTold_15 : decode cX1_arrowsTold 15 = .ok (.iload_n 2, 1) := by decide +kernel
theorem dX1_arrowsTold_16 : decode cX1_arrowsTold 16 = .ok (.iaload, 1) := by decide +kernel
theorem dX1_arrowsTold_17 : decode cX1_arrowsTold 17 = .ok (.invokestatic 34, 3) := by decide +kernel
theorem dX1_arrowsTold_20 : decode cX1_arrowsTold 20 = .ok (.iadd, 1) := by decide +kernel
theorem dX1_arrowsTold_21 : decode cX1_arrowsTold 21 = .ok (.istore_n 1, 1) := by decide +kernel
theorem dX1_arrowsTold_22 : decode cX1_arrowsTold 22 = .ok (.iinc 2 1, 3) := by decide +kernel
theorem dX1_arrowsTold_25 : decode cX1_arrowsTold 25 = .ok (.goto (-21), 3) := by decide +kernel
theorem dX1_arrowsTold_28 : decode cX1_arrowsTold 28 = .ok (.iload_n 1, 1) := by decide +kernel
theorem dX1_arrowsTold_29 : decode cX1_arrowsTold 29 = .ok (.ireturn, 1) := by decide +kernel
theorem dX1_cyclesOfThree_0 : decode cX1_cyclesOfThree 0 = .ok (.iconst 0, 1) := by decide +kernel
theorem dX1_cyclesOfThree_1 : decode cX1_cyclesOfThree 1 = .ok (.istore_n 1, 1) := by decide +kernel
theorem dX1_cyclesOfThree_2 : decode cX1_cyclesOfThree 2 = .ok (.iconst 0, 1) := by decide +kernel
theorem dX1_cyclesOfThree_3 : decode cX1_cyclesOfThree 3 = .ok (.istore_n 2, 1) := by decide +kernel
theorem dX1_cyclesOfThree_4 : decode cX1_cyclesOfThree 4 = .ok (.iload_n 2, 1) := by decide +kernel
theorem dX1_cyclesOfThree_5 : decode cX1_cyclesOfThree 5 = .ok (.aload_n 0, 1) := by decide +kernel
theorem dX1_cyclesOfThree_6 : decode cX1_cyclesOfThree 6 = .ok (.getfield 15, 3) := by decide +kernel
theorem dX1_cyclesOfThree_9 : decode cX1_cyclesOfThree 9 = .ok (.if_icmp .ge 81, 3) := by decide +kernel
theorem dX1_cyclesOfThree_12 : decode cX1_cyclesOfThree 12 = .ok (.iload_n 2, 1) := by decide +kernel
theorem dX1_cyclesOfThree_13 : decode cX1_cyclesOfThree 13 = .ok (.iconst 1, 1) := by decide +kernel
theorem dX1_cyclesOfThree_14 : decode cX1_cyclesOfThree 14 = .ok (.iadd, 1) := by decide +kernel
theorem dX1_cyclesOfThree_15 : decode cX1_cyclesOfThree 15 = .ok (.istore_n 3, 1) := by decide +kernel
theorem dX1_cyclesOfThree_16 : decode cX1_cyclesOfThree 16 = .ok (.iload_n 3, 1) := by decide +kernel
theorem dX1_cyclesOfThree_17 : decode cX1_cyclesOfThree 17 = .ok (.aload_n 0, 1) := by decide +kernel
theorem dX1_cyclesOfThree_18 : decode cX1_cyclesOfThree 18 = .ok (.getfield 15, 3) := by decide +kernel
theorem dX1_cyclesOfThree_21 : decode cX1_cyclesOfThree 21 = .ok (.if_icmp .ge 63, 3) := by decide +kernel
theorem dX1_cyclesOfThree_24 : decode cX1_cyclesOfThree 24 = .ok (.aload_n 0, 1) := by decide +kernel
theorem dX1_cyclesOfThree_25 : decode cX1_cyclesOfThree 25 = .ok (.iload_n 2, 1) := by decide +kernel
theorem dX1_cyclesOfThree_26 : decode cX1_cyclesOfThree 26 = .ok (.iload_n 3, 1) := by decide +kernel
theorem dX1_cyclesOfThree_27 : decode cX1_cyclesOfThree 27 = .ok (.invokevirtual 23, 3) := by decide +kernel
theorem dX1_cyclesOfThree_30 : decode cX1_cyclesOfThree 30 = .ok (.ifCond .eq 22, 3) := by decide +kernel
theorem dX1_cyclesOfThree_33 : decode cX1_cyclesOfThree 33 = .ok (.aload_n 0, 1) := by decide +kernel
theorem dX1_cyclesOfThree_34 : decode cX1_cyclesOfThree 34 = .ok (.getfield 9, 3) := by decide +kernel
theorem dX1_cyclesOfThree_37 : decode cX1_cyclesOfThree 37 = .ok (.iload_n 3, 1) := by decide +kernel
theorem dX1_cyclesOfThree_38 : decode cX1_cyclesOfThree 38 = .ok (.iaload, 1) := by decide +kernel
theorem dX1_cyclesOfThree_39 : decode cX1_cyclesOfThree 39 = .ok (.aload_n 0, 1) := by decide +kernel
theorem dX1_cyclesOfThree_40 : decode cX1_cyclesOfThree 40 = .ok (.iload_n 2, 1) := by decide +kernel
theorem dX1_cyclesOfThree_41 : decode cX1_cyclesOfThree 41 = .ok (.aload_n 0, 1) := by decide +kernel
theorem dX1_cyclesOfThree_42 : decode cX1_cyclesOfThree 42 = .ok (.invokevirtual 19, 3) := by decide +kernel
theorem dX1_cyclesOfThree_45 : decode cX1_cyclesOfThree 45 = .ok (.invokevirtual 31, 3) := by decide +kernel
theorem dX1_cyclesOfThree_48 : decode cX1_cyclesOfThree 48 = .ok (.iand, 1) := by decide +kernel
theorem dX1_cyclesOfThree_49 : decode cX1_cyclesOfThree 49 = .ok (.goto 19, 3) := by decide +kernel
theorem dX1_cyclesOfThree_52 : decode cX1_cyclesOfThree 52 = .ok (.aload_n 0, 1) := by decide +kernel
theorem dX1_cyclesOfThree_53 : decode cX1_cyclesOfThree 53 = .ok (.getfield 9, 3) := by decide +kernel
theorem dX1_cyclesOfThree_56 : decode cX1_cyclesOfThree 56 = .ok (.iload_n 2, 1) := by decide +kernel
theorem dX1_cyclesOfThree_57 : decode cX1_cyclesOfThree 57 = .ok (.iaload, 1) := by decide +kernel
theorem dX1_cyclesOfThree_58 : decode cX1_cyclesOfThree 58 = .ok (.aload_n 0, 1) := by decide +kernel
theorem dX1_cyclesOfThree_59 : decode cX1_cyclesOfThree 59 = .ok (.iload_n 3, 1) := by decide +kernel
theorem dX1_cyclesOfThree_60 : decode cX1_cyclesOfThree 60 = .ok (.aload_n 0, 1) := by decide +kernel
theorem dX1_cyclesOfThree_61 : decode cX1_cyclesOfThree 61 = .ok (.invokevirtual 19, 3) := by decide +kernel
theorem dX1_cyclesOfThree_64 : decode cX1_cyclesOfThree 64 = .ok (.invokevirtual 31, 3) := by decide +kernel
theorem dX1_cyclesOfThree_67 : decode cX1_cyclesOfThree 67 = .ok (.iand, 1) := by decide +kernel
theorem dX1_cyclesOfThree_68 : decode cX1_cyclesOfThree 68 = .ok (.istore 4, 2) := by decide +kernel
theorem dX1_cyclesOfThree_70 : decode cX1_cyclesOfThree 70 = .ok (.iload_n 1, 1) := by decide +kernel
theorem dX1_cyclesOfThree_71 : decode cX1_cyclesOfThree 71 = .ok (.iload 4, 2) := by decide +kernel
theorem dX1_cyclesOfThree_73 : decode cX1_cyclesOfThree 73 = .ok (.invokestatic 34, 3) := by decide +kernel
theorem dX1_cyclesOfThree_76 : decode cX1_cyclesOfThree 76 = .ok (.iadd, 1) := by decide +kernel
theorem dX1_cyclesOfThree_77 : decode cX1_cyclesOfThree 77 = .ok (.istore_n 1, 1) := by decide +kernel
theorem dX1_cyclesOfThree_78 : decode cX1_cyclesOfThree 78 = .ok (.iinc 3 1, 3) := by decide +kernel
theorem dX1_cyclesOfThree_81 : decode cX1_cyclesOfThree 81 = .ok (.goto (-65), 3) := by decide +kernel
theorem dX1_cyclesOfThree_84 : decode cX1_cyclesOfThree 84 = .ok (.iinc 2 1, 3) := by decide +kernel
theorem dX1_cyclesOfThree_87 : decode cX1_cyclesOfThree 87 = .ok (.goto (-83), 3) := by decide +kernel
theorem dX1_cyclesOfThree_90 : decode cX1_cyclesOfThree 90 = .ok (.iload_n 1, 1) := by decide +kernel
theorem dX1_cyclesOfThree_91 : decode cX1_cyclesOfThree 91 = .ok (.iconst 3, 1) := by decide +kernel
theorem dX1_cyclesOfThree_92 : decode cX1_cyclesOfThree 92 = .ok (.idiv, 1) := by decide +kernel
theorem dX1_cyclesOfThree_93 : decode cX1_cyclesOfThree 93 = .ok (.ireturn, 1) := by decide +kernel
theorem dX1_letBeat_0 : decode cX1_letBeat 0 = .ok (.aload_n 0, 1) := by decide +kernel
theorem dX1_letBeat_1 : decode cX1_letBeat 1 = .ok (.getfield 9, 3) := by decide +kernel
theorem dX1_letBeat_4 : decode cX1_letBeat 4 = .ok (.iload_n 1, 1) := by decide +kernel
theorem dX1_letBeat_5 : decode cX1_letBeat 5 = .ok (.dup2, 1) := by decide +kernel
theorem dX1_letBeat_6 : decode cX1_letBeat 6 = .ok (.iaload, 1) := by decide +kernel
theorem dX1_letBeat_7 : decode cX1_letBeat 7 = .ok (.iconst 1, 1) := by decide +kernel
theorem dX1_letBeat_8 : decode cX1_letBeat 8 = .ok (.iload_n 2, 1) := by decide +kernel
theorem dX1_letBeat_9 : decode cX1_letBeat 9 = .ok (.ishl, 1) := by decide +kernel
theorem dX1_letBeat_10 : decode cX1_letBeat 10 = .ok (.ior, 1) := by decide +kernel
theorem dX1_letBeat_11 : decode cX1_letBeat 11 = .ok (.iastore, 1) := by decide +kernel
theorem dX1_letBeat_12 : decode cX1_letBeat 12 = .ok (.aload_n 0, 1) := by decide +kernel
theorem dX1_letBeat_13 : decode cX1_letBeat 13 = .ok (.getfield 9, 3) := by decide +kernel
theorem dX1_letBeat_16 : decode cX1_letBeat 16 = .ok (.iload_n 2, 1) := by decide +kernel
theorem dX1_letBeat_17 : decode cX1_letBeat 17 = .ok (.dup2, 1) := by decide +kernel
theorem dX1_letBeat_18 : decode cX1_letBeat 18 = .ok (.iaload, 1) := by decide +kernel
theorem dX1_letBeat_19 : decode cX1_letBeat 19 = .ok (.iconst 1, 1) := by decide +kernel
theorem dX1_letBeat_20 : decode cX1_letBeat 20 = .ok (.iload_n 1, 1) := by decide +kernel
theorem dX1_letBeat_21 : decode cX1_letBeat 21 = .ok (.ishl, 1) := by decide +kernel
theorem dX1_letBeat_22 : decode cX1_letBeat 22 = .ok (.iconst (-1), 1) := by decide +kernel
theorem dX1_letBeat_23 : decode cX1_letBeat 23 = .ok (.ixor, 1) := by decide +kernel
theorem dX1_letBeat_24 : decode cX1_letBeat 24 = .ok (.iand, 1) := by decide +kernel
theorem dX1_letBeat_25 : decode cX1_letBeat 25 = .ok (.iastore, 1) := by decide +kernel
theorem dX1_letBeat_26 : decode cX1_letBeat 26 = .ok (.return_, 1) := by decide +kernel
theorem dX1_flip_0 : decode cX1_flip 0 = .ok (.aload_n 0, 1) := by decide +kernel
theorem dX1_flip_1 : decode cX1_flip 1 = .ok (.getfield 9, 3) := by decide +kernel
theorem dX1_flip_4 : decode cX1_flip 4 = .ok (.iload_n 1, 1) := by decide +kernel
theorem dX1_flip_5 : decode cX1_flip 5 = .ok (.dup2, 1) := by decide +kernel
theorem dX1_flip_6 : decode cX1_flip 6 = .ok (.iaload, 1) := by decide +kernel
theorem dX1_flip_7 : decode cX1_flip 7 = .ok (.iconst 1, 1) := by decide +kernel
theorem dX1_flip_8 : decode cX1_flip 8 = .ok (.iload_n 2, 1) := by decide +kernel
theorem dX1_flip_9 : decode cX1_flip 9 = .ok (.ishl, 1) := by decide +kernel
theorem dX1_flip_10 : decode cX1_flip 10 = .ok (.ixor, 1) := by decide +kernel
theorem dX1_flip_11 : decode cX1_flip 11 = .ok (.iastore, 1) := by decide +kernel
theorem dX1_flip_12 : decode cX1_flip 12 = .ok (.aload_n 0, 1) := by decide +kernel
theorem dX1_flip_13 : decode cX1_flip 13 = .ok (.getfield 9, 3) := by decide +kernel
theorem dX1_flip_16 : decode cX1_flip 16 = .ok (.iload_n 2, 1) := by decide +kernel
theorem dX1_flip_17 : decode cX1_flip 17 = .ok (.dup2, 1) := by decide +kernel
theorem dX1_flip_18 : decode cX1_flip 18 = .ok (.iaload, 1) := by decide +kernel
theorem dX1_flip_19 : decode cX1_flip 19 = .ok (.iconst 1, 1) := by decide +kernel
theorem dX1_flip_20 : decode cX1_flip 20 = .ok (.iload_n 1, 1) := by decide +kernel
theorem dX1_flip_21 : decode cX1_flip 21 = .ok (.ishl, 1) := by decide +kernel
theorem dX1_flip_22 : decode cX1_flip 22 = .ok (.ixor, 1) := by decide +kernel
theorem dX1_flip_23 : decode cX1_flip 23 = .ok (.iastore, 1) := by decide +kernel
theorem dX1_flip_24 : decode cX1_flip 24 = .ok (.return_, 1) := by decide +kernel
theorem dX1_addPlayer_0 : decode cX1_addPlayer 0 = .ok (.aload_n 0, 1) := by decide +kernel
theorem dX1_addPlayer_1 : decode cX1_addPlayer 1 = .ok (.getfield 15, 3) := by decide +kernel
theorem dX1_addPlayer_4 : decode cX1_addPlayer 4 = .ok (.istore_n 2, 1) := by decide +kernel
theorem dX1_addPlayer_5 : decode cX1_addPlayer 5 = .ok (.iconst 0, 1) := by decide +kernel
theorem dX1_addPlayer_6 : decode cX1_addPlayer 6 = .ok (.istore_n 3, 1) := by decide +kernel
theorem dX1_addPlayer_7 : decode cX1_addPlayer 7 = .ok (.iload_n 3, 1) := by decide +kernel
theorem dX1_addPlayer_8 : decode cX1_addPlayer 8 = .ok (.iload_n 2, 1) := by decide +kernel
theorem dX1_addPlayer_9 : decode cX1_addPlayer 9 = .ok (.if_icmp .ge 29, 3) := by decide +kernel
theorem dX1_addPlayer_12 : decode cX1_addPlayer 12 = .ok (.iload_n 1, 1) := by decide +kernel
theorem dX1_addPlayer_13 : decode cX1_addPlayer 13 = .ok (.iload_n 3, 1) := by decide +kernel
theorem dX1_addPlayer_14 : decode cX1_addPlayer 14 = .ok (.invokestatic 27, 3) := by decide +kernel
theorem dX1_addPlayer_17 : decode cX1_addPlayer 17 = .ok (.ifCond .ne 15, 3) := by decide +kernel
theorem dX1_addPlayer_20 : decode cX1_addPlayer 20 = .ok (.aload_n 0, 1) := by decide +kernel
theorem dX1_addPlayer_21 : decode cX1_addPlayer 21 = .ok (.getfield 9, 3) := by decide +kernel
theorem dX1_addPlayer_24 : decode cX1_addPlayer 24 = .ok (.iload_n 3, 1) := by decide +kernel
theorem dX1_addPlayer_25 : decode cX1_addPlayer 25 = .ok (.dup2, 1) := by decide +kernel
theorem dX1_addPlayer_26 : decode cX1_addPlayer 26 = .ok (.iaload, 1) := by decide +kernel
theorem dX1_addPlayer_27 : decode cX1_addPlayer 27 = .ok (.iconst 1, 1) := by decide +kernel
theorem dX1_addPlayer_28 : decode cX1_addPlayer 28 = .ok (.iload_n 2, 1) := by decide +kernel
theorem dX1_addPlayer_29 : decode cX1_addPlayer 29 = .ok (.ishl, 1) := by decide +kernel
theorem dX1_addPlayer_30 : decode cX1_addPlayer 30 = .ok (.ior, 1) := by decide +kernel
theorem dX1_addPlayer_31 : decode cX1_addPlayer 31 = .ok (.iastore, 1) := by decide +kernel
theorem dX1_addPlayer_32 : decode cX1_addPlayer 32 = .ok (.iinc 3 1, 3) := by decide +kernel
theorem dX1_addPlayer_35 : decode cX1_addPlayer 35 = .ok (.goto (-28), 3) := by decide +kernel
theorem dX1_addPlayer_38 : decode cX1_addPlayer 38 = .ok (.aload_n 0, 1) := by decide +kernel
theorem dX1_addPlayer_39 : decode cX1_addPlayer 39 = .ok (.getfield 9, 3) := by decide +kernel
theorem dX1_addPlayer_42 : decode cX1_addPlayer 42 = .ok (.iload_n 2, 1) := by decide +kernel
theorem dX1_addPlayer_43 : decode cX1_addPlayer 43 = .ok (.iload_n 1, 1) := by decide +kernel
theorem dX1_addPlayer_44 : decode cX1_addPlayer 44 = .ok (.iastore, 1) := by decide +kernel
theorem dX1_addPlayer_45 : decode cX1_addPlayer 45 = .ok (.aload_n 0, 1) := by decide +kernel
theorem dX1_addPlayer_46 : decode cX1_addPlayer 46 = .ok (.dup, 1) := by decide +kernel
theorem dX1_addPlayer_47 : decode cX1_addPlayer 47 = .ok (.getfield 15, 3) := by decide +kernel
theorem dX1_addPlayer_50 : decode cX1_addPlayer 50 = .ok (.iconst 1, 1) := by decide +kernel
theorem dX1_addPlayer_51 : decode cX1_addPlayer 51 = .ok (.iadd, 1) := by decide +kernel
theorem dX1_addPlayer_52 : decode cX1_addPlayer 52 = .ok (.putfield 15, 3) := by decide +kernel
theorem dX1_addPlayer_55 : decode cX1_addPlayer 55 = .ok (.return_, 1) := by decide +kernel
theorem dX1_removePlayer_0 : decode cX1_removePlayer 0 = .ok (.iload_n 1, 1) := by decide +kernel
theorem dX1_removePlayer_1 : decode cX1_removePlayer 1 = .ok (.istore_n 2, 1) := by decide +kernel
theorem dX1_removePlayer_2 : decode cX1_removePlayer 2 = .ok (.iload_n 2, 1) := by decide +kernel
theorem dX1_removePlayer_3 : decode cX1_removePlayer 3 = .ok (.aload_n 0, 1) := by decide +kernel
theorem dX1_removePlayer_4 : decode cX1_removePlayer 4 = .ok (.getfield 15, 3) := by decide +kernel
theorem dX1_removePlayer_7 : decode cX1_removePlayer 7 = .ok (.iconst 1, 1) := by decide +kernel
theorem dX1_removePlayer_8 : decode cX1_removePlayer 8 = .ok (.isub, 1) := by decide +kernel
theorem dX1_removePlayer_9 : decode cX1_removePlayer 9 = .ok (.if_icmp .ge 23, 3) := by decide +kernel
theorem dX1_removePlayer_12 : decode cX1_removePlayer 12 = .ok (.aload_n 0, 1) := by decide +kernel
theorem dX1_removePlayer_13 : decode cX1_removePlayer 13 = .ok (.getfield 9, 3) := by decide +kernel
theorem dX1_removePlayer_16 : decode cX1_removePlayer 16 = .ok (.iload_n 2, 1) := by decide +kernel
theorem dX1_removePlayer_17 : decode cX1_removePlayer 17 = .ok (.aload_n 0, 1) := by decide +kernel
theorem dX1_removePlayer_18 : decode cX1_removePlayer 18 = .ok (.getfield 9, 3) := by decide +kernel
theorem dX1_removePlayer_21 : decode cX1_removePlayer 21 = .ok (.iload_n 2, 1) := by decide +kernel
theorem dX1_removePlayer_22 : decode cX1_removePlayer 22 = .ok (.iconst 1, 1) := by decide +kernel
theorem dX1_removePlayer_23 : decode cX1_removePlayer 23 = .ok (.iadd, 1) := by decide +kernel
theorem dX1_removePlayer_24 : decode cX1_removePlayer 24 = .ok (.iaload, 1) := by decide +kernel
theorem dX1_removePlayer_25 : decode cX1_removePlayer 25 = .ok (.iastore, 1) := by decide +kernel
theorem dX1_removePlayer_26 : decode cX1_removePlayer 26 = .ok (.iinc 2 1, 3) := by decide +kernel
theorem dX1_removePlayer_29 : decode cX1_removePlayer 29 = .ok (.goto (-27), 3) := by decide +kernel
theorem dX1_removePlayer_32 : decode cX1_removePlayer 32 = .ok (.aload_n 0, 1) := by decide +kernel
theorem dX1_removePlayer_33 : decode cX1_removePlayer 33 = .ok (.dup, 1) := by decide +kernel
theorem dX1_removePlayer_34 : decode cX1_removePlayer 34 = .ok (.getfield 15, 3) := by decide +kernel
theorem dX1_removePlayer_37 : decode cX1_removePlayer 37 = .ok (.iconst 1, 1) := by decide +kernel
theorem dX1_removePlayer_38 : decode cX1_removePlayer 38 = .ok (.isub, 1) := by decide +kernel
theorem dX1_removePlayer_39 : decode cX1_removePlayer 39 = .ok (.putfield 15, 3) := by decide +kernel
theorem dX1_removePlayer_42 : decode cX1_removePlayer 42 = .ok (.aload_n 0, 1) := by decide +kernel
theorem dX1_removePlayer_43 : decode cX1_removePlayer 43 = .ok (.getfield 9, 3) := by decide +kernel
theorem dX1_removePlayer_46 : decode cX1_removePlayer 46 = .ok (.aload_n 0, 1) := by decide +kernel
theorem dX1_removePlayer_47 : decode cX1_removePlayer 47 = .ok (.getfield 15, 3) := by decide +kernel
theorem dX1_removePlayer_50 : decode cX1_removePlayer 50 = .ok (.iconst 0, 1) := by decide +kernel
theorem dX1_removePlayer_51 : decode cX1_removePlayer 51 = .ok (.iastore, 1) := by decide +kernel
theorem dX1_removePlayer_52 : decode cX1_removePlayer 52 = .ok (.iconst 1, 1) := by decide +kernel
theorem dX1_removePlayer_53 : decode cX1_removePlayer 53 = .ok (.iload_n 1, 1) := by decide +kernel
theorem dX1_removePlayer_54 : decode cX1_removePlayer 54 = .ok (.ishl, 1) := by decide +kernel
theorem dX1_removePlayer_55 : decode cX1_removePlayer 55 = .ok (.iconst 1, 1) := by decide +kernel
theorem dX1_removePlayer_56 : decode cX1_removePlayer 56 = .ok (.isub, 1) := by decide +kernel
theorem dX1_removePlayer_57 : decode cX1_removePlayer 57 = .ok (.istore_n 2, 1) := by decide +kernel
theorem dX1_removePlayer_58 : decode cX1_removePlayer 58 = .ok (.iconst 0, 1) := by decide +kernel
theorem dX1_removePlayer_59 : decode cX1_removePlayer 59 = .ok (.istore_n 3, 1) := by decide +kernel
theorem dX1_removePlayer_60 : decode cX1_removePlayer 60 = .ok (.iload_n 3, 1) := by decide +kernel
theorem dX1_removePlayer_61 : decode cX1_removePlayer 61 = .ok (.aload_n 0, 1) := by decide +kernel
theorem dX1_removePlayer_62 : decode cX1_removePlayer 62 = .ok (.getfield 15, 3) := by decide +kernel
theorem dX1_removePlayer_65 : decode cX1_removePlayer 65 = .ok (.if_icmp .ge 36, 3) := by decide +kernel
theorem dX1_removePlayer_68 : decode cX1_removePlayer 68 = .ok (.aload_n 0, 1) := by decide +kernel
theorem dX1_removePlayer_69 : decode cX1_removePlayer 69 = .ok (.getfield 9, 3) := by decide +kernel
theorem dX1_removePlayer_72 : decode cX1_removePlayer 72 = .ok (.iload_n 3, 1) := by decide +kernel
theorem dX1_removePlayer_73 : decode cX1_removePlayer 73 = .ok (.aload_n 0, 1) := by decide +kernel
theorem dX1_removePlayer_74 : decode cX1_removePlayer 74 = .ok (.getfield 9, 3) := by decide +kernel
theorem dX1_removePlayer_77 : decode cX1_removePlayer 77 = .ok (.iload_n 3, 1) := by decide +kernel
theorem dX1_removePlayer_78 : decode cX1_removePlayer 78 = .ok (.iaload, 1) := by decide +kernel
theorem dX1_removePlayer_79 : decode cX1_removePlayer 79 = .ok (.iload_n 2, 1) := by decide +kernel
theorem dX1_removePlayer_80 : decode cX1_removePlayer 80 = .ok (.iand, 1) := by decide +kernel
theorem dX1_removePlayer_81 : decode cX1_removePlayer 81 = .ok (.aload_n 0, 1) := by decide +kernel
theorem dX1_removePlayer_82 : decode cX1_removePlayer 82 = .ok (.getfield 9, 3) := by decide +kernel
theorem dX1_removePlayer_85 : decode cX1_removePlayer 85 = .ok (.iload_n 3, 1) := by decide +kernel
theorem dX1_removePlayer_86 : decode cX1_removePlayer 86 = .ok (.iaload, 1) := by decide +kernel
theorem dX1_removePlayer_87 : decode cX1_removePlayer 87 = .ok (.iconst 1, 1) := by decide +kernel
theorem dX1_removePlayer_88 : decode cX1_removePlayer 88 = .ok (.ishr, 1) := by decide +kernel
theorem dX1_removePlayer_89 : decode cX1_removePlayer 89 = .ok (.iload_n 2, 1) := by decide +kernel
theorem dX1_removePlayer_90 : decode cX1_removePlayer 90 = .ok (.iconst (-1), 1) := by decide +kernel
theorem dX1_removePlayer_91 : decode cX1_removePlayer 91 = .ok (.ixor, 1) := by decide +kernel
theorem dX1_removePlayer_92 : decode cX1_removePlayer 92 = .ok (.iand, 1) := by decide +kernel
theorem dX1_removePlayer_93 : decode cX1_removePlayer 93 = .ok (.ior, 1) := by decide +kernel
theorem dX1_removePlayer_94 : decode cX1_removePlayer 94 = .ok (.iastore, 1) := by decide +kernel
theorem dX1_removePlayer_95 : decode cX1_removePlayer 95 = .ok (.iinc 3 1, 3) := by decide +kernel
theorem dX1_removePlayer_98 : decode cX1_removePlayer 98 = .ok (.goto (-38), 3) := by decide +kernel
theorem dX1_removePlayer_101 : decode cX1_removePlayer 101 = .ok (.return_, 1) := by decide +kernel
theorem dX1_packed_0 : decode cX1_packed 0 = .ok (.lconst 0, 1) := by decide +kernel
theorem dX1_packed_1 : decode cX1_packed 1 = .ok (.lstore_n 1, 1) := by decide +kernel
theorem dX1_packed_2 : decode cX1_packed 2 = .ok (.iconst 0, 1) := by decide +kernel
theorem dX1_packed_3 : decode cX1_packed 3 = .ok (.istore_n 3, 1) := by decide +kernel
theorem dX1_packed_4 : decode cX1_packed 4 = .ok (.iload_n 3, 1) := by decide +kernel
theorem dX1_packed_5 : decode cX1_packed 5 = .ok (.aload_n 0, 1) := by decide +kernel
theorem dX1_packed_6 : decode cX1_packed 6 = .ok (.getfield 15, 3) := by decide +kernel
theorem dX1_packed_9 : decode cX1_packed 9 = .ok (.if_icmp .ge 46, 3) := by decide +kernel
theorem dX1_packed_12 : decode cX1_packed 12 = .ok (.iload_n 3, 1) := by decide +kernel
theorem dX1_packed_13 : decode cX1_packed 13 = .ok (.iconst 1, 1) := by decide +kernel
theorem dX1_packed_14 : decode cX1_packed 14 = .ok (.iadd, 1) := by decide +kernel
theorem dX1_packed_15 : decode cX1_packed 15 = .ok (.istore 4, 2) := by decide +kernel
theorem dX1_packed_17 : decode cX1_packed 17 = .ok (.iload 4, 2) := by decide +kernel
theorem dX1_packed_19 : decode cX1_packed 19 = .ok (.aload_n 0, 1) := by decide +kernel
theorem dX1_packed_20 : decode cX1_packed 20 = .ok (.getfield 15, 3) := by decide +kernel
theorem dX1_packed_23 : decode cX1_packed 23 = .ok (.if_icmp .ge 26, 3) := by decide +kernel
theorem dX1_packed_26 : decode cX1_packed 26 = .ok (.lload_n 1, 1) := by decide +kernel
theorem dX1_packed_27 : decode cX1_packed 27 = .ok (.iconst 1, 1) := by decide +kernel
theorem dX1_packed_28 : decode cX1_packed 28 = .ok (.lshl, 1) := by decide +kernel
theorem dX1_packed_29 : decode cX1_packed 29 = .ok (.aload_n 0, 1) := by decide +kernel
theorem dX1_packed_30 : decode cX1_packed 30 = .ok (.getfield 9, 3) := by decide +kernel
theorem dX1_packed_33 : decode cX1_packed 33 = .ok (.iload_n 3, 1) := by decide +kernel
theorem dX1_packed_34 : decode cX1_packed 34 = .ok (.iaload, 1) := by decide +kernel
theorem dX1_packed_35 : decode cX1_packed 35 = .ok (.iload 4, 2) := by decide +kernel
theorem dX1_packed_37 : decode cX1_packed 37 = .ok (.invokestatic 27, 3) := by decide +kernel
theorem dX1_packed_40 : decode cX1_packed 40 = .ok (.i2l, 1) := by decide +kernel
theorem dX1_packed_41 : decode cX1_packed 41 = .ok (.lor, 1) := by decide +kernel
theorem dX1_packed_42 : decode cX1_packed 42 = .ok (.lstore_n 1, 1) := by decide +kernel
theorem dX1_packed_43 : decode cX1_packed 43 = .ok (.iinc 4 1, 3) := by decide +kernel
theorem dX1_packed_46 : decode cX1_packed 46 = .ok (.goto (-29), 3) := by decide +kernel
theorem dX1_packed_49 : decode cX1_packed 49 = .ok (.iinc 3 1, 3) := by decide +kernel
theorem dX1_packed_52 : decode cX1_packed 52 = .ok (.goto (-48), 3) := by decide +kernel
theorem dX1_packed_55 : decode cX1_packed 55 = .ok (.lload_n 1, 1) := by decide +kernel
theorem dX1_packed_56 : decode cX1_packed 56 = .ok (.iconst 4, 1) := by decide +kernel
theorem dX1_packed_57 : decode cX1_packed 57 = .ok (.lshl, 1) := by decide +kernel
theorem dX1_packed_58 : decode cX1_packed 58 = .ok (.aload_n 0, 1) := by decide +kernel
theorem dX1_packed_59 : decode cX1_packed 59 = .ok (.getfield 15, 3) := by decide +kernel
theorem dX1_packed_62 : decode cX1_packed 62 = .ok (.i2l, 1) := by decide +kernel
theorem dX1_packed_63 : decode cX1_packed 63 = .ok (.lor, 1) := by decide +kernel
theorem dX1_packed_64 : decode cX1_packed 64 = .ok (.lreturn, 1) := by decide +kernel
theorem dX1_unpack_0 : decode cX1_unpack 0 = .ok (.aload_n 0, 1) := by decide +kernel
theorem dX1_unpack_1 : decode cX1_unpack 1 = .ok (.invokevirtual 40, 3) := by decide +kernel
theorem dX1_unpack_4 : decode cX1_unpack 4 = .ok (.lload_n 1, 1) := by decide +kernel
theorem dX1_unpack_5 : decode cX1_unpack 5 = .ok (.ldc2_w 43, 3) := by decide +kernel
theorem dX1_unpack_8 : decode cX1_unpack 8 = .ok (.land, 1) := by decide +kernel
theorem dX1_unpack_9 : decode cX1_unpack 9 = .ok (.l2i, 1) := by decide +kernel
theorem dX1_unpack_10 : decode cX1_unpack 10 = .ok (.istore_n 3, 1) := by decide +kernel
theorem dX1_unpack_11 : decode cX1_unpack 11 = .ok (.lload_n 1, 1) := by decide +kernel
theorem dX1_unpack_12 : decode cX1_unpack 12 = .ok (.iconst 4, 1) := by decide +kernel
theorem dX1_unpack_13 : decode cX1_unpack 13 = .ok (.lshr, 1) := by decide +kernel
theorem dX1_unpack_14 : decode cX1_unpack 14 = .ok (.lstore 4, 2) := by decide +kernel
theorem dX1_unpack_16 : decode cX1_unpack 16 = .ok (.iload_n 3, 1) := by decide +kernel
theorem dX1_unpack_17 : decode cX1_unpack 17 = .ok (.iconst 1, 1) := by decide +kernel
theorem dX1_unpack_18 : decode cX1_unpack 18 = .ok (.isub, 1) := by decide +kernel
theorem dX1_unpack_19 : decode cX1_unpack 19 = .ok (.istore 6, 2) := by decide +kernel
theorem dX1_unpack_21 : decode cX1_unpack 21 = .ok (.iload 6, 2) := by decide +kernel
theorem dX1_unpack_23 : decode cX1_unpack 23 = .ok (.ifCond .lt 61, 3) := by decide +kernel
theorem dX1_unpack_26 : decode cX1_unpack 26 = .ok (.iload_n 3, 1) := by decide +kernel
theorem dX1_unpack_27 : decode cX1_unpack 27 = .ok (.iconst 1, 1) := by decide +kernel
theorem dX1_unpack_28 : decode cX1_unpack 28 = .ok (.isub, 1) := by decide +kernel
theorem dX1_unpack_29 : decode cX1_unpack 29 = .ok (.istore 7, 2) := by decide +kernel
theorem dX1_unpack_31 : decode cX1_unpack 31 = .ok (.iload 7, 2) := by decide +kernel
theorem dX1_unpack_33 : decode cX1_unpack 33 = .ok (.iload 6, 2) := by decide +kernel
theorem dX1_unpack_35 : decode cX1_unpack 35 = .ok (.if_icmp .le 43, 3) := by decide +kernel
theorem dX1_unpack_38 : decode cX1_unpack 38 = .ok (.lload 4, 2) := by decide +kernel
theorem dX1_unpack_40 : decode cX1_unpack 40 = .ok (.lconst 1, 1) := by decide +kernel
theorem dX1_unpack_41 : decode cX1_unpack 41 = .ok (.land, 1) := by decide +kernel
theorem dX1_unpack_42 : decode cX1_unpack 42 = .ok (.lconst 1, 1) := by decide +kernel
theorem dX1_unpack_43 : decode cX1_unpack 43 = .ok (.lcmp, 1) := by decide +kernel
theorem dX1_unpack_44 : decode cX1_unpack 44 = .ok (.ifCond .ne 14, 3) := by decide +kernel
theorem dX1_unpack_47 : decode cX1_unpack 47 = .ok (.aload_n 0, 1) := by decide +kernel
theorem dX1_unpack_48 : decode cX1_unpack 48 = .ok (.iload 6, 2) := by decide +kernel
theorem dX1_unpack_50 : decode cX1_unpack 50 = .ok (.iload 7, 2) := by decide +kernel
theorem dX1_unpack_52 : decode cX1_unpack 52 = .ok (.invokevirtual 45, 3) := by decide +kernel
theorem dX1_unpack_55 : decode cX1_unpack 55 = .ok (.goto 11, 3) := by decide +kernel
theorem dX1_unpack_58 : decode cX1_unpack 58 = .ok (.aload_n 0, 1) := by decide +kernel
theorem dX1_unpack_59 : decode cX1_unpack 59 = .ok (.iload 7, 2) := by decide +kernel
theorem dX1_unpack_61 : decode cX1_unpack 61 = .ok (.iload 6, 2) := by decide +kernel
theorem dX1_unpack_63 : decode cX1_unpack 63 = .ok (.invokevirtual 45, 3) := by decide +kernel
theorem dX1_unpack_66 : decode cX1_unpack 66 = .ok (.lload 4, 2) := by decide +kernel
theorem dX1_unpack_68 : decode cX1_unpack 68 = .ok (.iconst 1, 1) := by decide +kernel
theorem dX1_unpack_69 : decode cX1_unpack 69 = .ok (.lshr, 1) := by decide +kernel
theorem dX1_unpack_70 : decode cX1_unpack 70 = .ok (.lstore 4, 2) := by decide +kernel
theorem dX1_unpack_72 : decode cX1_unpack 72 = .ok (.iinc 7 (-1), 3) := by decide +kernel
theorem dX1_unpack_75 : decode cX1_unpack 75 = .ok (.goto (-44), 3) := by decide +kernel
theorem dX1_unpack_78 : decode cX1_unpack 78 = .ok (.iinc 6 (-1), 3) := by decide +kernel
theorem dX1_unpack_81 : decode cX1_unpack 81 = .ok (.goto (-60), 3) := by decide +kernel
theorem dX1_unpack_84 : decode cX1_unpack 84 = .ok (.aload_n 0, 1) := by decide +kernel
theorem dX1_unpack_85 : decode cX1_unpack 85 = .ok (.iload_n 3, 1) := by decide +kernel
theorem dX1_unpack_86 : decode cX1_unpack 86 = .ok (.putfield 15, 3) := by decide +kernel
theorem dX1_unpack_89 : decode cX1_unpack 89 = .ok (.return_, 1) := by decide +kernel
theorem dX1_arrowsUnlike_0 : decode cX1_arrowsUnlike 0 = .ok (.iconst 1, 1) := by decide +kernel
theorem dX1_arrowsUnlike_1 : decode cX1_arrowsUnlike 1 = .ok (.aload_n 0, 1) := by decide +kernel
theorem dX1_arrowsUnlike_2 : decode cX1_arrowsUnlike 2 = .ok (.getfield 15, 3) := by decide +kernel
theorem dX1_arrowsUnlike_5 : decode cX1_arrowsUnlike 5 = .ok (.aload_n 1, 1) := by decide +kernel
theorem dX1_arrowsUnlike_6 : decode cX1_arrowsUnlike 6 = .ok (.getfield 15, 3) := by decide +kernel
theorem dX1_arrowsUnlike_9 : decode cX1_arrowsUnlike 9 = .ok (.invokestatic 49, 3) := by decide +kernel
theorem dX1_arrowsUnlike_12 : decode cX1_arrowsUnlike 12 = .ok (.ishl, 1) := by decide +kernel
theorem dX1_arrowsUnlike_13 : decode cX1_arrowsUnlike 13 = .ok (.iconst 1, 1) := by decide +kernel
theorem dX1_arrowsUnlike_14 : decode cX1_arrowsUnlike 14 = .ok (.isub, 1) := by decide +kernel
theorem dX1_arrowsUnlike_15 : decode cX1_arrowsUnlike 15 = .ok (.istore_n 2, 1) := by decide +kernel
theorem dX1_arrowsUnlike_16 : decode cX1_arrowsUnlike 16 = .ok (.iconst 0, 1) := by decide +kernel
theorem dX1_arrowsUnlike_17 : decode cX1_arrowsUnlike 17 = .ok (.istore_n 3, 1) := by decide +kernel
theorem dX1_arrowsUnlike_18 : decode cX1_arrowsUnlike 18 = .ok (.iconst 0, 1) := by decide +kernel
theorem dX1_arrowsUnlike_19 : decode cX1_arrowsUnlike 19 = .ok (.istore 4, 2) := by decide +kernel
theorem dX1_arrowsUnlike_21 : decode cX1_arrowsUnlike 21 = .ok (.iload 4, 2) := by decide +kernel
theorem dX1_arrowsUnlike_23 : decode cX1_arrowsUnlike 23 = .ok (.bipush 8, 2) := by decide +kernel
theorem dX1_arrowsUnlike_25 : decode cX1_arrowsUnlike 25 = .ok (.if_icmp .ge 42, 3) := by decide +kernel
theorem dX1_arrowsUnlike_28 : decode cX1_arrowsUnlike 28 = .ok (.iload_n 2, 1) := by decide +kernel
theorem dX1_arrowsUnlike_29 : decode cX1_arrowsUnlike 29 = .ok (.iload 4, 2) := by decide +kernel
theorem dX1_arrowsUnlike_31 : decode cX1_arrowsUnlike 31 = .ok (.invokestatic 27, 3) := by decide +kernel
theorem dX1_arrowsUnlike_34 : decode cX1_arrowsUnlike 34 = .ok (.iconst 1, 1) := by decide +kernel
theorem dX1_arrowsUnlike_35 : decode cX1_arrowsUnlike 35 = .ok (.if_icmp .ne 26, 3) := by decide +kernel
theorem dX1_arrowsUnlike_38 : decode cX1_arrowsUnlike 38 = .ok (.iload_n 3, 1) := by decide +kernel
theorem dX1_arrowsUnlike_39 : decode cX1_arrowsUnlike 39 = .ok (.aload_n 0, 1) := by decide +kernel
theorem dX1_arrowsUnlike_40 : decode cX1_arrowsUnlike 40 = .ok (.getfield 9, 3) := by decide +kernel
theorem dX1_arrowsUnlike_43 : decode cX1_arrowsUnlike 43 = .ok (.iload 4, 2) := by decide +kernel
theorem dX1_arrowsUnlike_45 : decode cX1_arrowsUnlike 45 = .ok (.iaload, 1) := by decide +kernel
theorem dX1_arrowsUnlike_46 : decode cX1_arrowsUnlike 46 = .ok (.aload_n 1, 1) := by decide +kernel
theorem dX1_arrowsUnlike_47 : decode cX1_arrowsUnlike 47 = .ok (.getfield 9, 3) := by decide +kernel
theorem dX1_arrowsUnlike_50 : decode cX1_arrowsUnlike 50 = .ok (.iload 4, 2) := by decide +kernel
theorem dX1_arrowsUnlike_52 : decode cX1_arrowsUnlike 52 = .ok (.iaload, 1) := by decide +kernel
theorem dX1_arrowsUnlike_53 : decode cX1_arrowsUnlike 53 = .ok (.ixor, 1) := by decide +kernel
theorem dX1_arrowsUnlike_54 : decode cX1_arrowsUnlike 54 = .ok (.iload_n 2, 1) := by decide +kernel
theorem dX1_arrowsUnlike_55 : decode cX1_arrowsUnlike 55 = .ok (.iand, 1) := by decide +kernel
theorem dX1_arrowsUnlike_56 : decode cX1_arrowsUnlike 56 = .ok (.invokestatic 34, 3) := by decide +kernel
theorem dX1_arrowsUnlike_59 : decode cX1_arrowsUnlike 59 = .ok (.iadd, 1) := by decide +kernel
theorem dX1_arrowsUnlike_60 : decode cX1_arrowsUnlike 60 = .ok (.istore_n 3, 1) := by decide +kernel
theorem dX1_arrowsUnlike_61 : decode cX1_arrowsUnlike 61 = .ok (.iinc 4 1, 3) := by decide +kernel
theorem dX1_arrowsUnlike_64 : decode cX1_arrowsUnlike 64 = .ok (.goto (-43), 3) := by decide +kernel
theorem dX1_arrowsUnlike_67 : decode cX1_arrowsUnlike 67 = .ok (.iload_n 3, 1) := by decide +kernel
theorem dX1_arrowsUnlike_68 : decode cX1_arrowsUnlike 68 = .ok (.iconst 2, 1) := by decide +kernel
theorem dX1_arrowsUnlike_69 : decode cX1_arrowsUnlike 69 = .ok (.idiv, 1) := by decide +kernel
theorem dX1_arrowsUnlike_70 : decode cX1_arrowsUnlike 70 = .ok (.ireturn, 1) := by decide +kernel
theorem dX2_init_0 : decode cX2_init 0 = .ok (.aload_n 0, 1) := by decide +kernel
theorem dX2_init_1 : decode cX2_init 1 = .ok (.invokespecial 3, 3) := by decide +kernel
theorem dX2_init_4 : decode cX2_init 4 = .ok (.aload_n 0, 1) := by decide +kernel
theorem dX2_init_5 : decode cX2_init 5 = .ok (.bipush 8, 2) := by decide +kernel
theorem dX2_init_7 : decode cX2_init 7 = .ok (.newarray .int, 2) := by decide +kernel
theorem dX2_init_9 : decode cX2_init 9 = .ok (.putfield 9, 3) := by decide +kernel
theorem dX2_init_12 : decode cX2_init 12 = .ok (.return_, 1) := by decide +kernel
theorem dX2_waysToRename_0 : decode cX2_waysToRename 0 = .ok (.aload_n 1, 1) := by decide +kernel
theorem dX2_waysToRename_1 : decode cX2_waysToRename 1 = .ok (.getfield 15, 3) := by decide +kernel
theorem dX2_waysToRename_4 : decode cX2_waysToRename 4 = .ok (.aload_n 2, 1) := by decide +kernel
theorem dX2_waysToRename_5 : decode cX2_waysToRename 5 = .ok (.getfield 15, 3) := by decide +kernel
theorem dX2_waysToRename_8 : decode cX2_waysToRename 8 = .ok (.if_icmp .ne 14, 3) := by decide +kernel
theorem dX2_waysToRename_11 : decode cX2_waysToRename 11 = .ok (.aload_n 0, 1) := by decide +kernel
theorem dX2_waysToRename_12 : decode cX2_waysToRename 12 = .ok (.aload_n 1, 1) := by decide +kernel
theorem dX2_waysToRename_13 : decode cX2_waysToRename 13 = .ok (.aload_n 2, 1) := by decide +kernel
theorem dX2_waysToRename_14 : decode cX2_waysToRename 14 = .ok (.iconst 0, 1) := by decide +kernel
theorem dX2_waysToRename_15 : decode cX2_waysToRename 15 = .ok (.iconst 0, 1) := by decide +kernel
theorem dX2_waysToRename_16 : decode cX2_waysToRename 16 = .ok (.invokevirtual 21, 3) := by decide +kernel
theorem dX2_waysToRename_19 : decode cX2_waysToRename 19 = .ok (.goto 4, 3) := by decide +kernel
theorem dX2_waysToRename_22 : decode cX2_waysToRename 22 = .ok (.iconst 0, 1) := by decide +kernel
theorem dX2_waysToRename_23 : decode cX2_waysToRename 23 = .ok (.ireturn, 1) := by decide +kernel
theorem dX2_waysFrom_0 : decode cX2_waysFrom 0 = .ok (.iload_n 3, 1) := by decide +kernel
theorem dX2_waysFrom_1 : decode cX2_waysFrom 1 = .ok (.aload_n 1, 1) := by decide +kernel
theorem dX2_waysFrom_2 : decode cX2_waysFrom 2 = .ok (.getfield 15, 3) := by decide +kernel
theorem dX2_waysFrom_5 : decode cX2_waysFrom 5 = .ok (.if_icmp .lt 5, 3) := by decide +kernel
theorem dX2_waysFrom_8 : decode cX2_waysFrom 8 = .ok (.iconst 1, 1) := by decide +kernel
theorem dX2_waysFrom_9 : decode cX2_waysFrom 9 = .ok (.ireturn, 1) := by decide +kernel
theorem dX2_waysFrom_10 : decode cX2_waysFrom 10 = .ok (.iconst 0, 1) := by decide +kernel
theorem dX2_waysFrom_11 : decode cX2_waysFrom 11 = .ok (.istore 5, 2) := by decide +kernel
theorem dX2_waysFrom_13 : decode cX2_waysFrom 13 = .ok (.iconst 0, 1) := by decide +kernel
theorem dX2_waysFrom_14 : decode cX2_waysFrom 14 = .ok (.istore 6, 2) := by decide +kernel
theorem dX2_waysFrom_16 : decode cX2_waysFrom 16 = .ok (.iload 6, 2) := by decide +kernel
theorem dX2_waysFrom_18 : decode cX2_waysFrom 18 = .ok (.aload_n 2, 1) := by decide +kernel
theorem dX2_waysFrom_19 : decode cX2_waysFrom 19 = .ok (.getfield 15, 3) := by decide +kernel
theorem dX2_waysFrom_22 : decode cX2_waysFrom 22 = .ok (.if_icmp .ge 60, 3) := by decide +kernel
theorem dX2_waysFrom_25 : decode cX2_waysFrom 25 = .ok (.iload 4, 2) := by decide +kernel
theorem dX2_waysFrom_27 : decode cX2_waysFrom 27 = .ok (.iload 6, 2) := by decide +kernel
theorem dX2_waysFrom_29 : decode cX2_waysFrom 29 = .ok (.invokestatic 25, 3) := by decide +kernel
theorem dX2_waysFrom_32 : decode cX2_waysFrom 32 = .ok (.ifCond .ne 44, 3) := by decide +kernel
theorem dX2_waysFrom_35 : decode cX2_waysFrom 35 = .ok (.aload_n 0, 1) := by decide +kernel
theorem dX2_waysFrom_36 : decode cX2_waysFrom 36 = .ok (.aload_n 1, 1) := by decide +kernel
theorem dX2_waysFrom_37 : decode cX2_waysFrom 37 = .ok (.aload_n 2, 1) := by decide +kernel
theorem dX2_waysFrom_38 : decode cX2_waysFrom 38 = .ok (.iload_n 3, 1) := by decide +kernel
theorem dX2_waysFrom_39 : decode cX2_waysFrom 39 = .ok (.iload 6, 2) := by decide +kernel
theorem dX2_waysFrom_41 : decode cX2_waysFrom 41 = .ok (.invokevirtual 29, 3) := by decide +kernel
theorem dX2_waysFrom_44 : decode cX2_waysFrom 44 = .ok (.ifCond .eq 32, 3) := by decide +kernel
theorem dX2_waysFrom_47 : decode cX2_waysFrom 47 = .ok (.aload_n 0, 1) := by decide +kernel
theorem dX2_waysFrom_48 : decode cX2_waysFrom 48 = .ok (.getfield 9, 3) := by decide +kernel
theorem dX2_waysFrom_51 : decode cX2_waysFrom 51 = .ok (.iload_n 3, 1) := by decide +kernel
theorem dX2_waysFrom_52 : decode cX2_waysFrom 52 = .ok (.iload 6, 2) := by decide +kernel
theorem dX2_waysFrom_54 : decode cX2_waysFrom 54 = .ok (.iastore, 1) := by decide +kernel
theorem dX2_waysFrom_55 : decode cX2_waysFrom 55 = .ok (.iload 5, 2) := by decide +kernel
theorem dX2_waysFrom_57 : decode cX2_waysFrom 57 = .ok (.aload_n 0, 1) := by decide +kernel
theorem dX2_waysFrom_58 : decode cX2_waysFrom 58 = .ok (.aload_n 1, 1) := by decide +kernel
theorem dX2_waysFrom_59 : decode cX2_waysFrom 59 = .ok (.aload_n 2, 1) := by decide +kernel
theorem dX2_waysFrom_60 : decode cX2_waysFrom 60 = .ok (.iload_n 3, 1) := by decide +kernel
theorem dX2_waysFrom_61 : decode cX2_waysFrom 61 = .ok (.iconst 1, 1) := by decide +kernel
theorem dX2_waysFrom_62 : decode cX2_waysFrom 62 = .ok (.iadd, 1) := by decide +kernel
theorem dX2_waysFrom_63 : decode cX2_waysFrom 63 = .ok (.iload 4, 2) := by decide +kernel
theorem dX2_waysFrom_65 : decode cX2_waysFrom 65 = .ok (.iconst 1, 1) := by decide +kernel
theorem dX2_waysFrom_66 : decode cX2_waysFrom 66 = .ok (.iload 6, 2) := by decide +kernel
theorem dX2_waysFrom_68 : decode cX2_waysFrom 68 = .ok (.ishl, 1) := by decide +kernel
theorem dX2_waysFrom_69 : decode cX2_waysFrom 69 = .ok (.ior, 1) := by decide +kernel
theorem dX2_waysFrom_70 : decode cX2_waysFrom 70 = .ok (.invokevirtual 21, 3) := by decide +kernel
theorem dX2_waysFrom_73 : decode cX2_waysFrom 73 = .ok (.iadd, 1) := by decide +kernel
theorem dX2_waysFrom_74 : decode cX2_waysFrom 74 = .ok (.istore 5, 2) := by decide +kernel
theorem dX2_waysFrom_76 : decode cX2_waysFrom 76 = .ok (.iinc 6 1, 3) := by decide +kernel
theorem dX2_waysFrom_79 : decode cX2_waysFrom 79 = .ok (.goto (-63), 3) := by decide +kernel
theorem dX2_waysFrom_82 : decode cX2_waysFrom 82 = .ok (.iload 5, 2) := by decide +kernel
theorem dX2_waysFrom_84 : decode cX2_waysFrom 84 = .ok (.ireturn, 1) := by decide +kernel
theorem dX2_isFitting_0 : decode cX2_isFitting 0 = .ok (.iconst 0, 1) := by decide +kernel
theorem dX2_isFitting_1 : decode cX2_isFitting 1 = .ok (.istore 5, 2) := by decide +kernel
theorem dX2_isFitting_3 : decode cX2_isFitting 3 = .ok (.iload 5, 2) := by decide +kernel
theorem dX2_isFitting_5 : decode cX2_isFitting 5 = .ok (.iload_n 3, 1) := by decide +kernel
theorem dX2_isFitting_6 : decode cX2_isFitting 6 = .ok (.if_icmp .ge 34, 3) := by decide +kernel
theorem dX2_isFitting_9 : decode cX2_isFitting 9 = .ok (.aload_n 1, 1) := by decide +kernel
theorem dX2_isFitting_10 : decode cX2_isFitting 10 = .ok (.iload_n 3, 1) := by decide +kernel
theorem dX2_isFitting_11 : decode cX2_isFitting 11 = .ok (.iload 5, 2) := by decide +kernel
theorem dX2_isFitting_13 : decode cX2_isFitting 13 = .ok (.invokevirtual 33, 3) := by decide +kernel
theorem dX2_isFitting_16 : decode cX2_isFitting 16 = .ok (.aload_n 2, 1) := by decide +kernel
theorem dX2_isFitting_17 : decode cX2_isFitting 17 = .ok (.iload 4, 2) := by decide +kernel
theorem dX2_isFitting_19 : decode cX2_isFitting 19 = .ok (.aload_n 0, 1) := by decide +kernel
theorem dX2_isFitting_20 : decode cX2_isFitting 20 = .ok (.getfield 9, 3) := by decide +kernel
theorem dX2_isFitting_23 : decode cX2_isFitting 23 = .ok (.iload 5, 2) := by decide +kernel
theorem dX2_isFitting_25 : decode cX2_isFitting 25 = .ok (.iaload, 1) := by decide +kernel
theorem dX2_isFitting_26 : decode cX2_isFitting 26 = .ok (.invokevirtual 33, 3) := by decide +kernel
theorem dX2_isFitting_29 : decode cX2_isFitting 29 = .ok (.if_icmp .eq 5, 3) := by decide +kernel
theorem dX2_isFitting_32 : decode cX2_isFitting 32 = .ok (.iconst 0, 1) := by decide +kernel
theorem dX2_isFitting_33 : decode cX2_isFitting 33 = .ok (.ireturn, 1) := by decide +kernel
theorem dX2_isFitting_34 : decode cX2_isFitting 34 = .ok (.iinc 5 1, 3) := by decide +kernel
theorem dX2_isFitting_37 : decode cX2_isFitting 37 = .ok (.goto (-34), 3) := by decide +kernel
theorem dX2_isFitting_40 : decode cX2_isFitting 40 = .ok (.iconst 1, 1) := by decide +kernel
theorem dX2_isFitting_41 : decode cX2_isFitting 41 = .ok (.ireturn, 1) := by decide +kernel
theorem dX3_init_0 : decode cX3_init 0 = .ok (.aload_n 0, 1) := by decide +kernel
theorem dX3_init_1 : decode cX3_init 1 = .ok (.invokespecial 3, 3) := by decide +kernel
theorem dX3_init_4 : decode cX3_init 4 = .ok (.aload_n 0, 1) := by decide +kernel
theorem dX3_init_5 : decode cX3_init 5 = .ok (.sipush 256, 3) := by decide +kernel
theorem dX3_init_8 : decode cX3_init 8 = .ok (.newarray .int, 2) := by decide +kernel
theorem dX3_init_10 : decode cX3_init 10 = .ok (.putfield 9, 3) := by decide +kernel
theorem dX3_init_13 : decode cX3_init 13 = .ok (.aload_n 0, 1) := by decide +kernel
theorem dX3_init_14 : decode cX3_init 14 = .ok (.sipush 256, 3) := by decide +kernel
theorem dX3_init_17 : decode cX3_init 17 = .ok (.newarray .int, 2) := by decide +kernel
theorem dX3_init_19 : decode cX3_init 19 = .ok (.putfield 15, 3) := by decide +kernel
theorem dX3_init_22 : decode cX3_init 22 = .ok (.aload_n 0, 1) := by decide +kernel
theorem dX3_init_23 : decode cX3_init 23 = .ok (.aload_n 1, 1) := by decide +kernel
theorem dX3_init_24 : decode cX3_init 24 = .ok (.putfield 18, 3) := by decide +kernel
theorem dX3_init_27 : decode cX3_init 27 = .ok (.return_, 1) := by decide +kernel
theorem dX3_measure_0 : decode cX3_measure 0 = .ok (.aload_n 0, 1) := by decide +kernel
theorem dX3_measure_1 : decode cX3_measure 1 = .ok (.getfield 9, 3) := by decide +kernel
theorem dX3_measure_4 : decode cX3_measure 4 = .ok (.iconst 0, 1) := by decide +kernel
theorem dX3_measure_5 : decode cX3_measure 5 = .ok (.iconst 0, 1) := by decide +kernel
theorem dX3_measure_6 : decode cX3_measure 6 = .ok (.iastore, 1) := by decide +kernel
theorem dX3_measure_7 : decode cX3_measure 7 = .ok (.aload_n 0, 1) := by decide +kernel
theorem dX3_measure_8 : decode cX3_measure 8 = .ok (.getfield 15, 3) := by decide +kernel
theorem dX3_measure_11 : decode cX3_measure 11 = .ok (.iconst 0, 1) := by decide +kernel
theorem dX3_measure_12 : decode cX3_measure 12 = .ok (.iconst 1, 1) := by decide +kernel
theorem dX3_measure_13 : decode cX3_measure 13 = .ok (.iastore, 1) := by decide +kernel
theorem dX3_measure_14 : decode cX3_measure 14 = .ok (.iconst 1, 1) := by decide +kernel
theorem dX3_measure_15 : decode cX3_measure 15 = .ok (.istore_n 2, 1) := by decide +kernel
theorem dX3_measure_16 : decode cX3_measure 16 = .ok (.iload_n 2, 1) := by decide +kernel
theorem dX3_measure_17 : decode cX3_measure 17 = .ok (.iload_n 1, 1) := by decide +kernel
theorem dX3_measure_18 : decode cX3_measure 18 = .ok (.if_icmp .gt 131, 3) := by decide +kernel
theorem dX3_measure_21 : decode cX3_measure 21 = .ok (.iload_n 2, 1) := by decide +kernel
theorem dX3_measure_22 : decode cX3_measure 22 = .ok (.iload_n 1, 1) := by decide +kernel
theorem dX3_measure_23 : decode cX3_measure 23 = .ok (.iconst (-1), 1) := by decide +kernel
theorem dX3_measure_24 : decode cX3_measure 24 = .ok (.ixor, 1) := by decide +kernel
theorem dX3_measure_25 : decode cX3_measure 25 = .ok (.iand, 1) := by decide +kernel
theorem dX3_measure_26 : decode cX3_measure 26 = .ok (.ifCond .eq 6, 3) := by decide +kernel
theorem dX3_measure_29 : decode cX3_measure 29 = .ok (.goto 114, 3) := by decide +kernel
theorem dX3_measure_32 : decode cX3_measure 32 = .ok (.aload_n 0, 1) := by decide +kernel
theorem dX3_measure_33 : decode cX3_measure 33 = .ok (.getfield 9, 3) := by decide +kernel
theorem dX3_measure_36 : decode cX3_measure 36 = .ok (.iload_n 2, 1) := by decide +kernel
theorem dX3_measure_37 : decode cX3_measure 37 = .ok (.bipush 64, 2) := by decide +kernel
theorem dX3_measure_39 : decode cX3_measure 39 = .ok (.iastore, 1) := by decide +kernel
theorem dX3_measure_40 : decode cX3_measure 40 = .ok (.aload_n 0, 1) := by decide +kernel
theorem dX3_measure_41 : decode cX3_measure 41 = .ok (.getfield 15, 3) := by decide +kernel
theorem dX3_measure_44 : decode cX3_measure 44 = .ok (.iload_n 2, 1) := by decide +kernel
theorem dX3_measure_45 : decode cX3_measure 45 = .ok (.iconst 0, 1) := by decide +kernel
theorem dX3_measure_46 : decode cX3_measure 46 = .ok (.iastore, 1) := by decide +kernel
theorem dX3_measure_47 : decode cX3_measure 47 = .ok (.iconst 0, 1) := by decide +kernel
theorem dX3_measure_48 : decode cX3_measure 48 = .ok (.istore_n 3, 1) := by decide +kernel
theorem dX3_measure_49 : decode cX3_measure 49 = .ok (.iload_n 3, 1) := by decide +kernel
theorem dX3_measure_50 : decode cX3_measure 50 = .ok (.aload_n 0, 1) := by decide +kernel
theorem dX3_measure_51 : decode cX3_measure 51 = .ok (.getfield 18, 3) := by decide +kernel
theorem dX3_measure_54 : decode cX3_measure 54 = .ok (.getfield 22, 3) := by decide +kernel
theorem dX3_measure_57 : decode cX3_measure 57 = .ok (.if_icmp .ge 86, 3) := by decide +kernel
theorem dX3_measure_60 : decode cX3_measure 60 = .ok (.iload_n 2, 1) := by decide +kernel
theorem dX3_measure_61 : decode cX3_measure 61 = .ok (.iload_n 3, 1) := by decide +kernel
theorem dX3_measure_62 : decode cX3_measure 62 = .ok (.invokestatic 28, 3) := by decide +kernel
theorem dX3_measure_65 : decode cX3_measure 65 = .ok (.ifCond .ne 6, 3) := by decide +kernel
theorem dX3_measure_68 : decode cX3_measure 68 = .ok (.goto 69, 3) := by decide +kernel
theorem dX3_measure_71 : decode cX3_measure 71 = .ok (.aload_n 0, 1) := by decide +kernel
theorem dX3_measure_72 : decode cX3_measure 72 = .ok (.iload_n 3, 1) := by decide +kernel
theorem dX3_measure_73 : decode cX3_measure 73 = .ok (.iload_n 2, 1) := by decide +kernel
theorem dX3_measure_74 : decode cX3_measure 74 = .ok (.invokevirtual 32, 3) := by decide +kernel
theorem dX3_measure_77 : decode cX3_measure 77 = .ok (.istore 4, 2) := by decide +kernel
theorem dX3_measure_79 : decode cX3_measure 79 = .ok (.iload 4, 2) := by decide +kernel
theorem dX3_measure_81 : decode cX3_measure 81 = .ok (.aload_n 0, 1) := by decide +kernel
theorem dX3_measure_82 : decode cX3_measure 82 = .ok (.getfield 9, 3) := by decide +kernel
theorem dX3_measure_85 : decode cX3_measure 85 = .ok (.iload_n 2, 1) := by decide +kernel
theorem dX3_measure_86 : decode cX3_measure 86 = .ok (.iaload, 1) := by decide +kernel
theorem dX3_measure_87 : decode cX3_measure 87 = .ok (.if_icmp .ge 18, 3) := by decide +kernel
theorem dX3_measure_90 : decode cX3_measure 90 = .ok (.aload_n 0, 1) := by decide +kernel
theorem dX3_measure_91 : decode cX3_measure 91 = .ok (.getfield 9, 3) := by decide +kernel
theorem dX3_measure_94 : decode cX3_measure 94 = .ok (.iload_n 2, 1) := by decide +kernel
theorem dX3_measure_95 : decode cX3_measure 95 = .ok (.iload 4, 2) := by decide +kernel
theorem dX3_measure_97 : decode cX3_measure 97 = .ok (.iastore, 1) := by decide +kernel
theorem dX3_measure_98 : decode cX3_measure 98 = .ok (.aload_n 0, 1) := by decide +kernel
theorem dX3_measure_99 : decode cX3_measure 99 = .ok (.getfield 15, 3) := by decide +kernel
theorem dX3_measure_102 : decode cX3_measure 102 = .ok (.iload_n 2, 1) := by decide +kernel
theorem dX3_measure_103 : decode cX3_measure 103 = .ok (.iconst 0, 1) := by decide +kernel
theorem dX3_measure_104 : decode cX3_measure 104 = .ok (.iastore, 1) := by decide +kernel
theorem dX3_measure_105 : decode cX3_measure 105 = .ok (.iload 4, 2) := by decide +kernel
theorem dX3_measure_107 : decode cX3_measure 107 = .ok (.aload_n 0, 1) := by decide +kernel
theorem dX3_measure_108 : decode cX3_measure 108 = .ok (.getfield 9, 3) := by decide +kernel
theorem dX3_measure_111 : decode cX3_measure 111 = .ok (.iload_n 2, 1) := by decide +kernel
theorem dX3_measure_112 : decode cX3_measure 112 = .ok (.iaload, 1) := by decide +kernel
theorem dX3_measure_113 : decode cX3_measure 113 = .ok (.if_icmp .ne 24, 3) := by decide +kernel
theorem dX3_measure_116 : decode cX3_measure 116 = .ok (.aload_n 0, 1) := by decide +kernel
theorem dX3_measure_117 : decode cX3_measure 117 = .ok (.getfield 15, 3) := by decide +kernel
theorem dX3_measure_120 : decode cX3_measure 120 = .ok (.iload_n 2, 1) := by decide +kernel
theorem dX3_measure_121 : decode cX3_measure 121 = .ok (.dup2, 1) := by decide +kernel
theorem dX3_measure_122 : decode cX3_measure 122 = .ok (.iaload, 1) := by decide +kernel
theorem dX3_measure_123 : decode cX3_measure 123 = .ok (.aload_n 0, 1) := by decide +kernel
theorem dX3_measure_124 : decode cX3_measure 124 = .ok (.getfield 15, 3) := by decide +kernel
theorem dX3_measure_127 : decode cX3_measure 127 = .ok (.iload_n 2, 1) := by decide +kernel
theorem dX3_measure_128 : decode cX3_measure 128 = .ok (.iconst 1, 1) := by decide +kernel
theorem dX3_measure_129 : decode cX3_measure 129 = .ok (.iload_n 3, 1) := by decide +kernel
theorem dX3_measure_130 : decode cX3_measure 130 = .ok (.ishl, 1) := by decide +kernel
theorem dX3_measure_131 : decode cX3_measure 131 = .ok (.iconst (-1), 1) := by decide +kernel
theorem dX3_measure_132 : decode cX3_measure 132 = .ok (.ixor, 1) := by decide +kernel
theorem dX3_measure_133 : decode cX3_measure 133 = .ok (.iand, 1) := by decide +kernel
theorem dX3_measure_134 : decode cX3_measure 134 = .ok (.iaload, 1) := by decide +kernel
theorem dX3_measure_135 : decode cX3_measure 135 = .ok (.iadd, 1) := by decide +kernel
theorem dX3_measure_136 : decode cX3_measure 136 = .ok (.iastore, 1) := by decide +kernel
theorem dX3_measure_137 : decode cX3_measure 137 = .ok (.iinc 3 1, 3) := by decide +kernel
theorem dX3_measure_140 : decode cX3_measure 140 = .ok (.goto (-91), 3) := by decide +kernel
theorem dX3_measure_143 : decode cX3_measure 143 = .ok (.iinc 2 1, 3) := by decide +kernel
theorem dX3_measure_146 : decode cX3_measure 146 = .ok (.goto (-130), 3) := by decide +kernel
theorem dX3_measure_149 : decode cX3_measure 149 = .ok (.return_, 1) := by decide +kernel
theorem dX3_turnedWithFirst_0 : decode cX3_turnedWithFirst 0 = .ok (.iload_n 2, 1) := by decide +kernel
theorem dX3_turnedWithFirst_1 : decode cX3_turnedWithFirst 1 = .ok (.iconst 1, 1) := by decide +kernel
theorem dX3_turnedWithFirst_2 : decode cX3_turnedWithFirst 2 = .ok (.iload_n 1, 1) := by decide +kernel
theorem dX3_turnedWithFirst_3 : decode cX3_turnedWithFirst 3 = .ok (.ishl, 1) := by decide +kernel
theorem dX3_turnedWithFirst_4 : decode cX3_turnedWithFirst 4 = .ok (.iconst (-1), 1) := by decide +kernel
theorem dX3_turnedWithFirst_5 : decode cX3_turnedWithFirst 5 = .ok (.ixor, 1) := by decide +kernel
theorem dX3_turnedWithFirst_6 : decode cX3_turnedWithFirst 6 = .ok (.iand, 1) := by decide +kernel
theorem dX3_turnedWithFirst_7 : decode cX3_turnedWithFirst 7 = .ok (.istore_n 3, 1) := by decide +kernel
theorem dX3_turnedWithFirst_8 : decode cX3_turnedWithFirst 8 = .ok (.aload_n 0, 1) := by decide +kernel
theorem dX3_turnedWithFirst_9 : decode cX3_turnedWithFirst 9 = .ok (.getfield 9, 3) := by decide +kernel
theorem dX3_turnedWithFirst_12 : decode cX3_turnedWithFirst 12 = .ok (.iload_n 3, 1) := by decide +kernel
theorem dX3_turnedWithFirst_13 : decode cX3_turnedWithFirst 13 = .ok (.iaload, 1) := by decide +kernel
theorem dX3_turnedWithFirst_14 : decode cX3_turnedWithFirst 14 = .ok (.iload_n 3, 1) := by decide +kernel
theorem dX3_turnedWithFirst_15 : decode cX3_turnedWithFirst 15 = .ok (.aload_n 0, 1) := by decide +kernel
theorem dX3_turnedWithFirst_16 : decode cX3_turnedWithFirst 16 = .ok (.getfield 18, 3) := by decide +kernel
theorem dX3_turnedWithFirst_19 : decode cX3_turnedWithFirst 19 = .ok (.getfield 35, 3) := by decide +kernel
theorem dX3_turnedWithFirst_22 : decode cX3_turnedWithFirst 22 = .ok (.iload_n 1, 1) := by decide +kernel
theorem dX3_turnedWithFirst_23 : decode cX3_turnedWithFirst 23 = .ok (.iaload, 1) := by decide +kernel
theorem dX3_turnedWithFirst_24 : decode cX3_turnedWithFirst 24 = .ok (.iconst (-1), 1) := by decide +kernel
theorem dX3_turnedWithFirst_25 : decode cX3_turnedWithFirst 25 = .ok (.ixor, 1) := by decide +kernel
theorem dX3_turnedWithFirst_26 : decode cX3_turnedWithFirst 26 = .ok (.iand, 1) := by decide +kernel
theorem dX3_turnedWithFirst_27 : decode cX3_turnedWithFirst 27 = .ok (.invokestatic 38, 3) := by decide +kernel
theorem dX3_turnedWithFirst_30 : decode cX3_turnedWithFirst 30 = .ok (.iadd, 1) := by decide +kernel
theorem dX3_turnedWithFirst_31 : decode cX3_turnedWithFirst 31 = .ok (.ireturn, 1) := by decide +kernel
theorem dX3_fewestTurned_0 : decode cX3_fewestTurned 0 = .ok (.aload_n 0, 1) := by decide +kernel
theorem dX3_fewestTurned_1 : decode cX3_fewestTurned 1 = .ok (.iload_n 1, 1) := by decide +kernel
theorem dX3_fewestTurned_2 : decode cX3_fewestTurned 2 = .ok (.invokevirtual 44, 3) := by decide +kernel
theorem dX3_fewestTurned_5 : decode cX3_fewestTurned 5 = .ok (.aload_n 0, 1) := by decide +kernel
theorem dX3_fewestTurned_6 : decode cX3_fewestTurned 6 = .ok (.getfield 9, 3) := by decide +kernel
theorem dX3_fewestTurned_9 : decode cX3_fewestTurned 9 = .ok (.iload_n 1, 1) := by decide +kernel
theorem dX3_fewestTurned_10 : decode cX3_fewestTurned 10 = .ok (.iaload, 1) := by decide +kernel
theorem dX3_fewestTurned_11 : decode cX3_fewestTurned 11 = .ok (.ireturn, 1) := by decide +kernel
theorem dX3_howMany_0 : decode cX3_howMany 0 = .ok (.aload_n 0, 1) := by decide +kernel
theorem dX3_howMany_1 : decode cX3_howMany 1 = .ok (.iload_n 1, 1) := by decide +kernel
theorem dX3_howMany_2 : decode cX3_howMany 2 = .ok (.invokevirtual 44, 3) := by decide +kernel
theorem dX3_howMany_5 : decode cX3_howMany 5 = .ok (.aload_n 0, 1) := by decide +kernel
theorem dX3_howMany_6 : decode cX3_howMany 6 = .ok (.getfield 15, 3) := by decide +kernel
theorem dX3_howMany_9 : decode cX3_howMany 9 = .ok (.iload_n 1, 1) := by decide +kernel
theorem dX3_howMany_10 : decode cX3_howMany 10 = .ok (.iaload, 1) := by decide +kernel
theorem dX3_howMany_11 : decode cX3_howMany 11 = .ok (.ireturn, 1) := by decide +kernel
theorem dX3_firsts_0 : decode cX3_firsts 0 = .ok (.aload_n 0, 1) := by decide +kernel
theorem dX3_firsts_1 : decode cX3_firsts 1 = .ok (.iload_n 1, 1) := by decide +kernel
theorem dX3_firsts_2 : decode cX3_firsts 2 = .ok (.invokevirtual 44, 3) := by decide +kernel
theorem dX3_firsts_5 : decode cX3_firsts 5 = .ok (.iconst 0, 1) := by decide +kernel
theorem dX3_firsts_6 : decode cX3_firsts 6 = .ok (.istore_n 2, 1) := by decide +kernel
theorem dX3_firsts_7 : decode cX3_firsts 7 = .ok (.iconst 0, 1) := by decide +kernel
theorem dX3_firsts_8 : decode cX3_firsts 8 = .ok (.istore_n 3, 1) := by decide +kernel
theorem dX3_firsts_9 : decode cX3_firsts 9 = .ok (.iload_n 3, 1) := by decide +kernel
theorem dX3_firsts_10 : decode cX3_firsts 10 = .ok (.aload_n 0, 1) := by decide +kernel
theorem dX3_firsts_11 : decode cX3_firsts 11 = .ok (.getfield 18, 3) := by decide +kernel
theorem dX3_firsts_14 : decode cX3_firsts 14 = .ok (.getfield 22, 3) := by decide +kernel
theorem dX3_firsts_17 : decode cX3_firsts 17 = .ok (.if_icmp .ge 24, 3) := by decide +kernel
theorem dX3_firsts_20 : decode cX3_firsts 20 = .ok (.aload_n 0, 1) := by decide +kernel
theorem dX3_firsts_21 : decode cX3_firsts 21 = .ok (.iload_n 3, 1) := by decide +kernel
theorem dX3_firsts_22 : decode cX3_firsts 22 = .ok (.iload_n 1, 1) := by decide +kernel
theorem dX3_firsts_23 : decode cX3_firsts 23 = .ok (.invokevirtual 48, 3) := by decide +kernel
theorem dX3_firsts_26 : decode cX3_firsts 26 = .ok (.ifCond .eq 9, 3) := by decide +kernel
theorem dX3_firsts_29 : decode cX3_firsts 29 = .ok (.iload_n 2, 1) := by decide +kernel
theorem dX3_firsts_30 : decode cX3_firsts 30 = .ok (.iconst 1, 1) := by decide +kernel
theorem dX3_firsts_31 : decode cX3_firsts 31 = .ok (.iload_n 3, 1) := by decide +kernel
theorem dX3_firsts_32 : decode cX3_firsts 32 = .ok (.ishl, 1) := by decide +kernel
theorem dX3_firsts_33 : decode cX3_firsts 33 = .ok (.ior, 1) := by decide +kernel
theorem dX3_firsts_34 : decode cX3_firsts 34 = .ok (.istore_n 2, 1) := by decide +kernel
theorem dX3_firsts_35 : decode cX3_firsts 35 = .ok (.iinc 3 1, 3) := by decide +kernel
theorem dX3_firsts_38 : decode cX3_firsts 38 = .ok (.goto (-29), 3) := by decide +kernel
theorem dX3_firsts_41 : decode cX3_firsts 41 = .ok (.iload_n 2, 1) := by decide +kernel
theorem dX3_firsts_42 : decode cX3_firsts 42 = .ok (.ireturn, 1) := by decide +kernel
theorem dX3_isFirstOfBest_0 : decode cX3_isFirstOfBest 0 = .ok (.iload_n 2, 1) := by decide +kernel
theorem dX3_isFirstOfBest_1 : decode cX3_isFirstOfBest 1 = .ok (.iload_n 1, 1) := by decide +kernel
theorem dX3_isFirstOfBest_2 : decode cX3_isFirstOfBest 2 = .ok (.invokestatic 28, 3) := by decide +kernel
theorem dX3_isFirstOfBest_5 : decode cX3_isFirstOfBest 5 = .ok (.iconst 1, 1) := by decide +kernel
theorem dX3_isFirstOfBest_6 : decode cX3_isFirstOfBest 6 = .ok (.if_icmp .ne 22, 3) := by decide +kernel
theorem dX3_isFirstOfBest_9 : decode cX3_isFirstOfBest 9 = .ok (.aload_n 0, 1) := by decide +kernel
theorem dX3_isFirstOfBest_10 : decode cX3_isFirstOfBest 10 = .ok (.iload_n 1, 1) := by decide +kernel
theorem dX3_isFirstOfBest_11 : decode cX3_isFirstOfBest 11 = .ok (.iload_n 2, 1) := by decide +kernel
theorem dX3_isFirstOfBest_12 : decode cX3_isFirstOfBest 12 = .ok (.invokevirtual 32, 3) := by decide +kernel
theorem dX3_isFirstOfBest_15 : decode cX3_isFirstOfBest 15 = .ok (.aload_n 0, 1) := by decide +kernel
theorem dX3_isFirstOfBest_16 : decode cX3_isFirstOfBest 16 = .ok (.getfield 9, 3) := by decide +kernel
theorem dX3_isFirstOfBest_19 : decode cX3_isFirstOfBest 19 = .ok (.iload_n 2, 1) := by decide +kernel
theorem dX3_isFirstOfBest_20 : decode cX3_isFirstOfBest 20 = .ok (.iaload, 1) := by decide +kernel
theorem dX3_isFirstOfBest_21 : decode cX3_isFirstOfBest 21 = .ok (.if_icmp .ne 7, 3) := by decide +kernel
theorem dX3_isFirstOfBest_24 : decode cX3_isFirstOfBest 24 = .ok (.iconst 1, 1) := by decide +kernel
theorem dX3_isFirstOfBest_25 : decode cX3_isFirstOfBest 25 = .ok (.goto 4, 3) := by decide +kernel
theorem dX3_isFirstOfBest_28 : decode cX3_isFirstOfBest 28 = .ok (.iconst 0, 1) := by decide +kernel
theorem dX3_isFirstOfBest_29 : decode cX3_isFirstOfBest 29 = .ok (.ireturn, 1) := by decide +kernel
theorem dX3_behindBest_0 : decode cX3_behindBest 0 = .ok (.aload_n 0, 1) := by decide +kernel
theorem dX3_behindBest_1 : decode cX3_behindBest 1 = .ok (.iload_n 2, 1) := by decide +kernel
theorem dX3_behindBest_2 : decode cX3_behindBest 2 = .ok (.invokevirtual 44, 3) := by decide +kernel
theorem dX3_behindBest_5 : decode cX3_behindBest 5 = .ok (.aload_n 0, 1) := by decide +kernel
theorem dX3_behindBest_6 : decode cX3_behindBest 6 = .ok (.iload_n 1, 1) := by decide +kernel
theorem dX3_behindBest_7 : decode cX3_behindBest 7 = .ok (.iload_n 2, 1) := by decide +kernel
theorem dX3_behindBest_8 : decode cX3_behindBest 8 = .ok (.invokevirtual 32, 3) := by decide +kernel
theorem dX3_behindBest_11 : decode cX3_behindBest 11 = .ok (.aload_n 0, 1) := by decide +kernel
theorem dX3_behindBest_12 : decode cX3_behindBest 12 = .ok (.getfield 9, 3) := by decide +kernel
theorem dX3_behindBest_15 : decode cX3_behindBest 15 = .ok (.iload_n 2, 1) := by decide +kernel
theorem dX3_behindBest_16 : decode cX3_behindBest 16 = .ok (.iaload, 1) := by decide +kernel
theorem dX3_behindBest_17 : decode cX3_behindBest 17 = .ok (.isub, 1) := by decide +kernel
theorem dX3_behindBest_18 : decode cX3_behindBest 18 = .ok (.ireturn, 1) := by decide +kernel
theorem dX3_placeInLeast_0 : decode cX3_placeInLeast 0 = .ok (.aload_n 0, 1) := by decide +kernel
theorem dX3_placeInLeast_1 : decode cX3_placeInLeast 1 = .ok (.iload_n 2, 1) := by decide +kernel
theorem dX3_placeInLeast_2 : decode cX3_placeInLeast 2 = .ok (.invokevirtual 44, 3) := by decide +kernel
theorem dX3_placeInLeast_5 : decode cX3_placeInLeast 5 = .ok (.iload_n 2, 1) := by decide +kernel
theorem dX3_placeInLeast_6 : decode cX3_placeInLeast 6 = .ok (.istore_n 3, 1) := by decide +kernel
theorem dX3_placeInLeast_7 : decode cX3_placeInLeast 7 = .ok (.iconst (-1), 1) := by decide +kernel
theorem dX3_placeInLeast_8 : decode cX3_placeInLeast 8 = .ok (.istore 4, 2) := by decide +kernel
theorem dX3_placeInLeast_10 : decode cX3_placeInLeast 10 = .ok (.iconst 0, 1) := by decide +kernel
theorem dX3_placeInLeast_11 : decode cX3_placeInLeast 11 = .ok (.istore 5, 2) := by decide +kernel
theorem dX3_placeInLeast_13 : decode cX3_placeInLeast 13 = .ok (.iload 5, 2) := by decide +kernel
theorem dX3_placeInLeast_15 : decode cX3_placeInLeast 15 = .ok (.iload_n 1, 1) := by decide +kernel
theorem dX3_placeInLeast_16 : decode cX3_placeInLeast 16 = .ok (.if_icmp .gt 33, 3) := by decide +kernel
theorem dX3_placeInLeast_19 : decode cX3_placeInLeast 19 = .ok (.aload_n 0, 1) := by decide +kernel
theorem dX3_placeInLeast_20 : decode cX3_placeInLeast 20 = .ok (.iload_n 3, 1) := by decide +kernel
theorem dX3_placeInLeast_21 : decode cX3_placeInLeast 21 = .ok (.invokevirtual 52, 3) := by decide +kernel
theorem dX3_placeInLeast_24 : decode cX3_placeInLeast 24 = .ok (.istore 4, 2) := by decide +kernel
theorem dX3_placeInLeast_26 : decode cX3_placeInLeast 26 = .ok (.iload 4, 2) := by decide +kernel
theorem dX3_placeInLeast_28 : decode cX3_placeInLeast 28 = .ok (.iconst (-1), 1) := by decide +kernel
theorem dX3_placeInLeast_29 : decode cX3_placeInLeast 29 = .ok (.if_icmp .ne 5, 3) := by decide +kernel
theorem dX3_placeInLeast_32 : decode cX3_placeInLeast 32 = .ok (.iconst (-1), 1) := by decide +kernel
theorem dX3_placeInLeast_33 : decode cX3_placeInLeast 33 = .ok (.ireturn, 1) := by decide +kernel
theorem dX3_placeInLeast_34 : decode cX3_placeInLeast 34 = .ok (.iload_n 3, 1) := by decide +kernel
theorem dX3_placeInLeast_35 : decode cX3_placeInLeast 35 = .ok (.iconst 1, 1) := by decide +kernel
theorem dX3_placeInLeast_36 : decode cX3_placeInLeast 36 = .ok (.iload 4, 2) := by decide +kernel
theorem dX3_placeInLeast_38 : decode cX3_placeInLeast 38 = .ok (.ishl, 1) := by decide +kernel
theorem dX3_placeInLeast_39 : decode cX3_placeInLeast 39 = .ok (.iconst (-1), 1) := by decide +kernel
theorem dX3_placeInLeast_40 : decode cX3_placeInLeast 40 = .ok (.ixor, 1) := by decide +kernel
theorem dX3_placeInLeast_41 : decode cX3_placeInLeast 41 = .ok (.iand, 1) := by decide +kernel
theorem dX3_placeInLeast_42 : decode cX3_placeInLeast 42 = .ok (.istore_n 3, 1) := by decide +kernel
theorem dX3_placeInLeast_43 : decode cX3_placeInLeast 43 = .ok (.iinc 5 1, 3) := by decide +kernel
theorem dX3_placeInLeast_46 : decode cX3_placeInLeast 46 = .ok (.goto (-33), 3) := by decide +kernel
theorem dX3_placeInLeast_49 : decode cX3_placeInLeast 49 = .ok (.iload 4, 2) := by decide +kernel
theorem dX3_placeInLeast_51 : decode cX3_placeInLeast 51 = .ok (.ireturn, 1) := by decide +kernel
theorem dX3_leastFirst_0 : decode cX3_leastFirst 0 = .ok (.iconst 0, 1) := by decide +kernel
theorem dX3_leastFirst_1 : decode cX3_leastFirst 1 = .ok (.istore_n 2, 1) := by decide +kernel
theorem dX3_leastFirst_2 : decode cX3_leastFirst 2 = .ok (.iload_n 2, 1) := by decide +kernel
theorem dX3_leastFirst_3 : decode cX3_leastFirst 3 = .ok (.aload_n 0, 1) := by decide +kernel
theorem dX3_leastFirst_4 : decode cX3_leastFirst 4 = .ok (.getfield 18, 3) := by decide +kernel
theorem dX3_leastFirst_7 : decode cX3_leastFirst 7 = .ok (.getfield 22, 3) := by decide +kernel
theorem dX3_leastFirst_10 : decode cX3_leastFirst 10 = .ok (.if_icmp .ge 20, 3) := by decide +kernel
theorem dX3_leastFirst_13 : decode cX3_leastFirst 13 = .ok (.aload_n 0, 1) := by decide +kernel
theorem dX3_leastFirst_14 : decode cX3_leastFirst 14 = .ok (.iload_n 2, 1) := by decide +kernel
theorem dX3_leastFirst_15 : decode cX3_leastFirst 15 = .ok (.iload_n 1, 1) := by decide +kernel
theorem dX3_leastFirst_16 : decode cX3_leastFirst 16 = .ok (.invokevirtual 48, 3) := by decide +kernel
theorem dX3_leastFirst_19 : decode cX3_leastFirst 19 = .ok (.ifCond .eq 5, 3) := by decide +kernel
theorem dX3_leastFirst_22 : decode cX3_leastFirst 22 = .ok (.iload_n 2, 1) := by decide +kernel
theorem dX3_leastFirst_23 : decode cX3_leastFirst 23 = .ok (.ireturn, 1) := by decide +kernel
theorem dX3_leastFirst_24 : decode cX3_leastFirst 24 = .ok (.iinc 2 1, 3) := by decide +kernel
theorem dX3_leastFirst_27 : decode cX3_leastFirst 27 = .ok (.goto (-25), 3) := by decide +kernel
theorem dX3_leastFirst_30 : decode cX3_leastFirst 30 = .ok (.iconst (-1), 1) := by decide +kernel
theorem dX3_leastFirst_31 : decode cX3_leastFirst 31 = .ok (.ireturn, 1) := by decide +kernel
theorem dX3_turnedByWins_0 : decode cX3_turnedByWins 0 = .ok (.iconst 0, 1) := by decide +kernel
theorem dX3_turnedByWins_1 : decode cX3_turnedByWins 1 = .ok (.istore_n 1, 1) := by decide +kernel
theorem dX3_turnedByWins_2 : decode cX3_turnedByWins 2 = .ok (.iconst 0, 1) := by decide +kernel
theorem dX3_turnedByWins_3 : decode cX3_turnedByWins 3 = .ok (.istore_n 2, 1) := by decide +kernel
theorem dX3_turnedByWins_4 : decode cX3_turnedByWins 4 = .ok (.iload_n 2, 1) := by decide +kernel
theorem dX3_turnedByWins_5 : decode cX3_turnedByWins 5 = .ok (.aload_n 0, 1) := by decide +kernel
theorem dX3_turnedByWins_6 : decode cX3_turnedByWins 6 = .ok (.getfield 18, 3) := by decide +kernel
theorem dX3_turnedByWins_9 : decode cX3_turnedByWins 9 = .ok (.getfield 22, 3) := by decide +kernel
theorem dX3_turnedByWins_12 : decode cX3_turnedByWins 12 = .ok (.if_icmp .ge 86, 3) := by decide +kernel
theorem dX3_turnedByWins_15 : decode cX3_turnedByWins 15 = .ok (.iload_n 2, 1) := by decide +kernel
theorem dX3_turnedByWins_16 : decode cX3_turnedByWins 16 = .ok (.iconst 1, 1) := by decide +kernel
theorem dX3_turnedByWins_17 : decode cX3_turnedByWins 17 = .ok (.iadd, 1) := by decide +kernel
theorem dX3_turnedByWins_18 : decode cX3_turnedByWins 18 = .ok (.istore_n 3, 1) := by decide +kernel
theorem dX3_turnedByWins_19 : decode cX3_turnedByWins 19 = .ok (.iload_n 3, 1) := by decide +kernel
theorem dX3_turnedByWins_20 : decode cX3_turnedByWins 20 = .ok (.aload_n 0, 1) := by decide +kernel
theorem dX3_turnedByWins_21 : decode cX3_turnedByWins 21 = .ok (.getfield 18, 3) := by decide +kernel
theorem dX3_turnedByWins_24 : decode cX3_turnedByWins 24 = .ok (.getfield 22, 3) := by decide +kernel
theorem dX3_turnedByWins_27 : decode cX3_turnedByWins 27 = .ok (.if_icmp .ge 65, 3) := by decide +kernel
theorem dX3_turnedByWins_30 : decode cX3_turnedByWins 30 = .ok (.aload_n 0, 1) := by decide +kernel
theorem dX3_turnedByWins_31 : decode cX3_turnedByWins 31 = .ok (.getfield 18, 3) := by decide +kernel
theorem dX3_turnedByWins_34 : decode cX3_turnedByWins 34 = .ok (.getfield 35, 3) := by decide +kernel
theorem dX3_turnedByWins_37 : decode cX3_turnedByWins 37 = .ok (.iload_n 3, 1) := by decide +kernel
theorem dX3_turnedByWins_38 : decode cX3_turnedByWins 38 = .ok (.iaload, 1) := by decide +kernel
theorem dX3_turnedByWins_39 : decode cX3_turnedByWins 39 = .ok (.invokestatic 38, 3) := by decide +kernel
theorem dX3_turnedByWins_42 : decode cX3_turnedByWins 42 = .ok (.aload_n 0, 1) := by decide +kernel
theorem dX3_turnedByWins_43 : decode cX3_turnedByWins 43 = .ok (.getfield 18, 3) := by decide +kernel
theorem dX3_turnedByWins_46 : decode cX3_turnedByWins 46 = .ok (.getfield 35, 3) := by decide +kernel
theorem dX3_turnedByWins_49 : decode cX3_turnedByWins 49 = .ok (.iload_n 2, 1) := by decide +kernel
theorem dX3_turnedByWins_50 : decode cX3_turnedByWins 50 = .ok (.iaload, 1) := by decide +kernel
theorem dX3_turnedByWins_51 : decode cX3_turnedByWins 51 = .ok (.invokestatic 38, 3) := by decide +kernel
theorem dX3_turnedByWins_54 : decode cX3_turnedByWins 54 = .ok (.isub, 1) := by decide +kernel
theorem dX3_turnedByWins_55 : decode cX3_turnedByWins 55 = .ok (.istore 4, 2) := by decide +kernel
theorem dX3_turnedByWins_57 : decode cX3_turnedByWins 57 = .ok (.iload 4, 2) := by decide +kernel
theorem dX3_turnedByWins_59 : decode cX3_turnedByWins 59 = .ok (.ifCond .le 7, 3) := by decide +kernel
theorem dX3_turnedByWins_62 : decode cX3_turnedByWins 62 = .ok (.iload_n 3, 1) := by decide +kernel
theorem dX3_turnedByWins_63 : decode cX3_turnedByWins 63 = .ok (.goto 4, 3) := by decide +kernel
theorem dX3_turnedByWins_66 : decode cX3_turnedByWins 66 = .ok (.iload_n 2, 1) := by decide +kernel
theorem dX3_turnedByWins_67 : decode cX3_turnedByWins 67 = .ok (.istore 5, 2) := by decide +kernel
theorem dX3_turnedByWins_69 : decode cX3_turnedByWins 69 = .ok (.aload_n 0, 1) := by decide +kernel
theorem dX3_turnedByWins_70 : decode cX3_turnedByWins 70 = .ok (.getfield 18, 3) := by decide +kernel
theorem dX3_turnedByWins_73 : decode cX3_turnedByWins 73 = .ok (.iload_n 2, 1) := by decide +kernel
theorem dX3_turnedByWins_74 : decode cX3_turnedByWins 74 = .ok (.iload_n 3, 1) := by decide +kernel
theorem dX3_turnedByWins_75 : decode cX3_turnedByWins 75 = .ok (.invokevirtual 55, 3) := by decide +kernel
theorem dX3_turnedByWins_78 : decode cX3_turnedByWins 78 = .ok (.iload 5, 2) := by decide +kernel
theorem dX3_turnedByWins_80 : decode cX3_turnedByWins 80 = .ok (.if_icmp .eq 6, 3) := by decide +kernel
theorem dX3_turnedByWins_83 : decode cX3_turnedByWins 83 = .ok (.iinc 1 1, 3) := by decide +kernel
theorem dX3_turnedByWins_86 : decode cX3_turnedByWins 86 = .ok (.iinc 3 1, 3) := by decide +kernel
theorem dX3_turnedByWins_89 : decode cX3_turnedByWins 89 = .ok (.goto (-70), 3) := by decide +kernel
theorem dX3_turnedByWins_92 : decode cX3_turnedByWins 92 = .ok (.iinc 2 1, 3) := by decide +kernel
theorem dX3_turnedByWins_95 : decode cX3_turnedByWins 95 = .ok (.goto (-91), 3) := by decide +kernel
theorem dX3_turnedByWins_98 : decode cX3_turnedByWins 98 = .ok (.iload_n 1, 1) := by decide +kernel
theorem dX3_turnedByWins_99 : decode cX3_turnedByWins 99 = .ok (.ireturn, 1) := by decide +kernel
theorem dX4_init_0 : decode cX4_init 0 = .ok (.aload_n 0, 1) := by decide +kernel
theorem dX4_init_1 : decode cX4_init 1 = .ok (.invokespecial 3, 3) := by decide +kernel
theorem dX4_init_4 : decode cX4_init 4 = .ok (.aload_n 0, 1) := by decide +kernel
theorem dX4_init_5 : decode cX4_init 5 = .ok (.bipush 10, 2) := by decide +kernel
theorem dX4_init_7 : decode cX4_init 7 = .ok (.newarray .long, 2) := by decide +kernel
theorem dX4_init_9 : decode cX4_init 9 = .ok (.putfield 9, 3) := by decide +kernel
theorem dX4_init_12 : decode cX4_init 12 = .ok (.aload_n 0, 1) := by decide +kernel
theorem dX4_init_13 : decode cX4_init 13 = .ok (.iconst 2, 1) := by decide +kernel
theorem dX4_init_14 : decode cX4_init 14 = .ok (.newarray .long, 2) := by decide +kernel
theorem dX4_init_16 : decode cX4_init 16 = .ok (.putfield 15, 3) := by decide +kernel
theorem dX4_init_19 : decode cX4_init 19 = .ok (.return_, 1) := by decide +kernel
theorem dX4_remember_0 : decode cX4_remember 0 = .ok (.aload_n 0, 1) := by decide +kernel
theorem dX4_remember_1 : decode cX4_remember 1 = .ok (.getfield 18, 3) := by decide +kernel
theorem dX4_remember_4 : decode cX4_remember 4 = .ok (.bipush 10, 2) := by decide +kernel
theorem dX4_remember_6 : decode cX4_remember 6 = .ok (.if_icmp .ne 28, 3) := by decide +kernel
theorem dX4_remember_9 : decode cX4_remember 9 = .ok (.aload_n 0, 1) := by decide +kernel
theorem dX4_remember_10 : decode cX4_remember 10 = .ok (.getfield 9, 3) := by decide +kernel
theorem dX4_remember_13 : decode cX4_remember 13 = .ok (.iconst 1, 1) := by decide +kernel
theorem dX4_remember_14 : decode cX4_remember 14 = .ok (.aload_n 0, 1) := by decide +kernel
theorem dX4_remember_15 : decode cX4_remember 15 = .ok (.getfield 9, 3) := by decide +kernel
theorem dX4_remember_18 : decode cX4_remember 18 = .ok (.iconst 0, 1) := by decide +kernel
theorem dX4_remember_19 : decode cX4_remember 19 = .ok (.bipush 9, 2) := by decide +kernel
theorem dX4_remember_21 : decode cX4_remember 21 = .ok (.invokestatic 22, 3) := by decide +kernel
theorem dX4_remember_24 : decode cX4_remember 24 = .ok (.aload_n 0, 1) := by decide +kernel
theorem dX4_remember_25 : decode cX4_remember 25 = .ok (.dup, 1) := by decide +kernel
theorem dX4_remember_26 : decode cX4_remember 26 = .ok (.getfield 18, 3) := by decide +kernel
theorem dX4_remember_29 : decode cX4_remember 29 = .ok (.iconst 1, 1) := by decide +kernel
theorem dX4_remember_30 : decode cX4_remember 30 = .ok (.isub, 1) := by decide +kernel
theorem dX4_remember_31 : decode cX4_remember 31 = .ok (.putfield 18, 3) := by decide +kernel
theorem dX4_remember_34 : decode cX4_remember 34 = .ok (.aload_n 0, 1) := by decide +kernel
theorem dX4_remember_35 : decode cX4_remember 35 = .ok (.getfield 9, 3) := by decide +kernel
theorem dX4_remember_38 : decode cX4_remember 38 = .ok (.aload_n 0, 1) := by decide +kernel
theorem dX4_remember_39 : decode cX4_remember 39 = .ok (.getfield 18, 3) := by decide +kernel
theorem dX4_remember_42 : decode cX4_remember 42 = .ok (.lload_n 1, 1) := by decide +kernel
theorem dX4_remember_43 : decode cX4_remember 43 = .ok (.lastore, 1) := by decide +kernel
theorem dX4_remember_44 : decode cX4_remember 44 = .ok (.aload_n 0, 1) := by decide +kernel
theorem dX4_remember_45 : decode cX4_remember 45 = .ok (.dup, 1) := by decide +kernel
theorem dX4_remember_46 : decode cX4_remember 46 = .ok (.getfield 18, 3) := by decide +kernel
theorem dX4_remember_49 : decode cX4_remember 49 = .ok (.iconst 1, 1) := by decide +kernel
theorem dX4_remember_50 : decode cX4_remember 50 = .ok (.iadd, 1) := by decide +kernel
theorem dX4_remember_51 : decode cX4_remember 51 = .ok (.putfield 18, 3) := by decide +kernel
theorem dX4_remember_54 : decode cX4_remember 54 = .ok (.return_, 1) := by decide +kernel
theorem dX4_takeLatest_0 : decode cX4_takeLatest 0 = .ok (.aload_n 0, 1) := by decide +kernel
theorem dX4_takeLatest_1 : decode cX4_takeLatest 1 = .ok (.dup, 1) := by decide +kernel
theorem dX4_takeLatest_2 : decode cX4_takeLatest 2 = .ok (.getfield 18, 3) := by decide +kernel
theorem dX4_takeLatest_5 : decode cX4_takeLatest 5 = .ok (.iconst 1, 1) := by decide +kernel
theorem dX4_takeLatest_6 : decode cX4_takeLatest 6 = .ok (.isub, 1) := by decide +kernel
theorem dX4_takeLatest_7 : decode cX4_takeLatest 7 = .ok (.putfield 18, 3) := by decide +kernel
theorem dX4_takeLatest_10 : decode cX4_takeLatest 10 = .ok (.aload_n 0, 1) := by decide +kernel
theorem dX4_takeLatest_11 : decode cX4_takeLatest 11 = .ok (.getfield 9, 3) := by decide +kernel
theorem dX4_takeLatest_14 : decode cX4_takeLatest 14 = .ok (.aload_n 0, 1) := by decide +kernel
theorem dX4_takeLatest_15 : decode cX4_takeLatest 15 = .ok (.getfield 18, 3) := by decide +kernel
theorem dX4_takeLatest_18 : decode cX4_takeLatest 18 = .ok (.laload, 1) := by decide +kernel
theorem dX4_takeLatest_19 : decode cX4_takeLatest 19 = .ok (.lreturn, 1) := by decide +kernel
theorem dX4_isKept_0 : decode cX4_isKept 0 = .ok (.iload_n 1, 1) := by decide +kernel
theorem dX4_isKept_1 : decode cX4_isKept 1 = .ok (.ifCond .lt 23, 3) := by decide +kernel
theorem dX4_isKept_4 : decode cX4_isKept 4 = .ok (.iload_n 1, 1) := by decide +kernel
theorem dX4_isKept_5 : decode cX4_isKept 5 = .ok (.iconst 2, 1) := by decide +kernel
theorem dX4_isKept_6 : decode cX4_isKept 6 = .ok (.if_icmp .ge 18, 3) := by decide +kernel
theorem dX4_isKept_9 : decode cX4_isKept 9 = .ok (.aload_n 0, 1) := by decide +kernel
theorem dX4_isKept_10 : decode cX4_isKept 10 = .ok (.getfield 15, 3) := by decide +kernel
theorem dX4_isKept_13 : decode cX4_isKept 13 = .ok (.iload_n 1, 1) := by decide +kernel
theorem dX4_isKept_14 : decode cX4_isKept 14 = .ok (.laload, 1) := by decide +kernel
theorem dX4_isKept_15 : decode cX4_isKept 15 = .ok (.lconst 0, 1) := by decide +kernel
theorem dX4_isKept_16 : decode cX4_isKept 16 = .ok (.lcmp, 1) := by decide +kernel
theorem dX4_isKept_17 : decode cX4_isKept 17 = .ok (.ifCond .eq 7, 3) := by decide +kernel
theorem dX4_isKept_20 : decode cX4_isKept 20 = .ok (.iconst 1, 1) := by decide +kernel
theorem dX4_isKept_21 : decode cX4_isKept 21 = .ok (.goto 4, 3) := by decide +kernel
theorem dX4_isKept_24 : decode cX4_isKept 24 = .ok (.iconst 0, 1) := by decide +kernel
theorem dX4_isKept_25 : decode cX4_isKept 25 = .ok (.ireturn, 1) := by decide +kernel
theorem dX4_forgetAll_0 : decode cX4_forgetAll 0 = .ok (.aload_n 0, 1) := by decide +kernel
theorem dX4_forgetAll_1 : decode cX4_forgetAll 1 = .ok (.iconst 0, 1) := by decide +kernel
theorem dX4_forgetAll_2 : decode cX4_forgetAll 2 = .ok (.putfield 18, 3) := by decide +kernel
theorem dX4_forgetAll_5 : decode cX4_forgetAll 5 = .ok (.iconst 0, 1) := by decide +kernel
theorem dX4_forgetAll_6 : decode cX4_forgetAll 6 = .ok (.istore_n 1, 1) := by decide +kernel
theorem dX4_forgetAll_7 : decode cX4_forgetAll 7 = .ok (.iload_n 1, 1) := by decide +kernel
theorem dX4_forgetAll_8 : decode cX4_forgetAll 8 = .ok (.iconst 2, 1) := by decide +kernel
theorem dX4_forgetAll_9 : decode cX4_forgetAll 9 = .ok (.if_icmp .ge 16, 3) := by decide +kernel
theorem dX4_forgetAll_12 : decode cX4_forgetAll 12 = .ok (.aload_n 0, 1) := by decide +kernel
theorem dX4_forgetAll_13 : decode cX4_forgetAll 13 = .ok (.getfield 15, 3) := by decide +kernel
theorem dX4_forgetAll_16 : decode cX4_forgetAll 16 = .ok (.iload_n 1, 1) := by decide +kernel
theorem dX4_forgetAll_17 : decode cX4_forgetAll 17 = .ok (.lconst 0, 1) := by decide +kernel
theorem dX4_forgetAll_18 : decode cX4_forgetAll 18 = .ok (.lastore, 1) := by decide +kernel
theorem dX4_forgetAll_19 : decode cX4_forgetAll 19 = .ok (.iinc 1 1, 3) := by decide +kernel
theorem dX4_forgetAll_22 : decode cX4_forgetAll 22 = .ok (.goto (-15), 3) := by decide +kernel
theorem dX4_forgetAll_25 : decode cX4_forgetAll 25 = .ok (.return_, 1) := by decide +kernel
theorem dX5_init_0 : decode cX5_init 0 = .ok (.aload_n 0, 1) := by decide +kernel
theorem dX5_init_1 : decode cX5_init 1 = .ok (.invokespecial 3, 3) := by decide +kernel
theorem dX5_init_4 : decode cX5_init 4 = .ok (.aload_n 0, 1) := by decide +kernel
theorem dX5_init_5 : decode cX5_init 5 = .ok (.sipush 300, 3) := by decide +kernel
theorem dX5_init_8 : decode cX5_init 8 = .ok (.newarray .int, 2) := by decide +kernel
theorem dX5_init_10 : decode cX5_init 10 = .ok (.putfield 9, 3) := by decide +kernel
theorem dX5_init_13 : decode cX5_init 13 = .ok (.aload_n 0, 1) := by decide +kernel
theorem dX5_init_14 : decode cX5_init 14 = .ok (.bipush 102, 2) := by decide +kernel
theorem dX5_init_16 : decode cX5_init 16 = .ok (.newarray .int, 2) := by decide +kernel
theorem dX5_init_18 : decode cX5_init 18 = .ok (.putfield 15, 3) := by decide +kernel
theorem dX5_init_21 : decode cX5_init 21 = .ok (.aload_n 0, 1) := by decide +kernel
theorem dX5_init_22 : decode cX5_init 22 = .ok (.bipush 8, 2) := by decide +kernel
theorem dX5_init_24 : decode cX5_init 24 = .ok (.newarray .int, 2) := by decide +kernel
theorem dX5_init_26 : decode cX5_init 26 = .ok (.putfield 18, 3) := by decide +kernel
theorem dX5_init_29 : decode cX5_init 29 = .ok (.aload_n 0, 1) := by decide +kernel
theorem dX5_init_30 : decode cX5_init 30 = .ok (.aload_n 1, 1) := by decide +kernel
theorem dX5_init_31 : decode cX5_init 31 = .ok (.putfield 21, 3) := by decide +kernel
theorem dX5_init_34 : decode cX5_init 34 = .ok (.aload_n 0, 1) := by decide +kernel
theorem dX5_init_35 : decode cX5_init 35 = .ok (.aload_n 2, 1) := by decide +kernel
theorem dX5_init_36 : decode cX5_init 36 = .ok (.putfield 25, 3) := by decide +kernel
theorem dX5_init_39 : decode cX5_init 39 = .ok (.aload_n 0, 1) := by decide +kernel
theorem dX5_init_40 : decode cX5_init 40 = .ok (.aload_n 3, 1) := by decide +kernel
theorem dX5_init_41 : decode cX5_init 41 = .ok (.putfield 29, 3) := by decide +kernel
theorem dX5_init_44 : decode cX5_init 44 = .ok (.aload_n 0, 1) := by decide +kernel
theorem dX5_init_45 : decode cX5_init 45 = .ok (.aload 4, 2) := by decide +kernel
theorem dX5_init_47 : decode cX5_init 47 = .ok (.putfield 33, 3) := by decide +kernel
theorem dX5_init_50 : decode cX5_init 50 = .ok (.aload_n 0, 1) := by decide +kernel
theorem dX5_init_51 : decode cX5_init 51 = .ok (.aload 5, 2) := by decide +kernel
theorem dX5_init_53 : decode cX5_init 53 = .ok (.putfield 37, 3) := by decide +kernel
theorem dX5_init_56 : decode cX5_init 56 = .ok (.return_, 1) := by decide +kernel
theorem dX5_readLines_0 : decode cX5_readLines 0 = .ok (.aload_n 0, 1) := by decide +kernel
theorem dX5_readLines_1 : decode cX5_readLines 1 = .ok (.getfield 25, 3) := by decide +kernel
theorem dX5_readLines_4 : decode cX5_readLines 4 = .ok (.iconst 0, 1) := by decide +kernel
theorem dX5_readLines_5 : decode cX5_readLines 5 = .ok (.putfield 41, 3) := by decide +kernel
theorem dX5_readLines_8 : decode cX5_readLines 8 = .ok (.aload_n 0, 1) := by decide +kernel
theorem dX5_readLines_9 : decode cX5_readLines 9 = .ok (.iconst 0, 1) := by decide +kernel
theorem dX5_readLines_10 : decode cX5_readLines 10 = .ok (.putfield 47, 3) := by decide +kernel
theorem dX5_readLines_13 : decode cX5_readLines 13 = .ok (.aload_n 0, 1) := by decide +kernel
theorem dX5_readLines_14 : decode cX5_readLines 14 = .ok (.iconst 0, 1) := by decide +kernel
theorem dX5_readLines_15 : decode cX5_readLines 15 = .ok (.putfield 50, 3) := by decide +kernel
theorem dX5_readLines_18 : decode cX5_readLines 18 = .ok (.aload_n 0, 1) := by decide +kernel
theorem dX5_readLines_19 : decode cX5_readLines 19 = .ok (.getfield 15, 3) := by decide +kernel
theorem dX5_readLines_22 : decode cX5_readLines 22 = .ok (.iconst 0, 1) := by decide +kernel
theorem dX5_readLines_23 : decode cX5_readLines 23 = .ok (.iconst 0, 1) := by decide +kernel
theorem dX5_readLines_24 : decode cX5_readLines 24 = .ok (.iastore, 1) := by decide +kernel
theorem dX5_readLines_25 : decode cX5_readLines 25 = .ok (.iconst 0, 1) := by decide +kernel
theorem dX5_readLines_26 : decode cX5_readLines 26 = .ok (.istore_n 1, 1) := by decide +kernel
theorem dX5_readLines_27 : decode cX5_readLines 27 = .ok (.iload_n 1, 1) := by decide +kernel
theorem dX5_readLines_28 : decode cX5_readLines 28 = .ok (.bipush 100, 2) := by decide +kernel
theorem dX5_readLines_30 : decode cX5_readLines 30 = .ok (.if_icmp .gt 72, 3) := by decide +kernel
theorem dX5_readLines_33 : decode cX5_readLines 33 = .ok (.aload_n 0, 1) := by decide +kernel
theorem dX5_readLines_34 : decode cX5_readLines 34 = .ok (.invokevirtual 53, 3) := by decide +kernel
theorem dX5_readLines_37 : decode cX5_readLines 37 = .ok (.ifCond .ne 11, 3) := by decide +kernel
theorem dX5_readLines_40 : decode cX5_readLines 40 = .ok (.aload_n 0, 1) := by decide +kernel
theorem dX5_readLines_41 : decode cX5_readLines 41 = .ok (.getfield 25, 3) := by decide +kernel
theorem dX5_readLines_44 : decode cX5_readLines 44 = .ok (.getfield 41, 3) := by decide +kernel
theorem dX5_readLines_47 : decode cX5_readLines 47 = .ok (.ireturn, 1) := by decide +kernel
theorem dX5_readLines_48 : decode cX5_readLines 48 = .ok (.aload_n 0, 1) := by decide +kernel
theorem dX5_readLines_49 : decode cX5_readLines 49 = .ok (.iload_n 1, 1) := by decide +kernel
theorem dX5_readLines_50 : decode cX5_readLines 50 = .ok (.iconst 1, 1) := by decide +kernel
theorem dX5_readLines_51 : decode cX5_readLines 51 = .ok (.iadd, 1) := by decide +kernel
theorem dX5_readLines_52 : decode cX5_readLines 52 = .ok (.putfield 50, 3) := by decide +kernel
theorem dX5_readLines_55 : decode cX5_readLines 55 = .ok (.aload_n 0, 1) := by decide +kernel
theorem dX5_readLines_56 : decode cX5_readLines 56 = .ok (.getfield 15, 3) := by decide +kernel
theorem dX5_readLines_59 : decode cX5_readLines 59 = .ok (.aload_n 0, 1) := by decide +kernel
theorem dX5_readLines_60 : decode cX5_readLines 60 = .ok (.getfield 50, 3) := by decide +kernel
theorem dX5_readLines_63 : decode cX5_readLines 63 = .ok (.aload_n 0, 1) := by decide +kernel
theorem dX5_readLines_64 : decode cX5_readLines 64 = .ok (.getfield 47, 3) := by decide +kernel
theorem dX5_readLines_67 : decode cX5_readLines 67 = .ok (.iastore, 1) := by decide +kernel
theorem dX5_readLines_68 : decode cX5_readLines 68 = .ok (.aload_n 0, 1) := by decide +kernel
theorem dX5_readLines_69 : decode cX5_readLines 69 = .ok (.getfield 25, 3) := by decide +kernel
theorem dX5_readLines_72 : decode cX5_readLines 72 = .ok (.invokevirtual 57, 3) := by decide +kernel
theorem dX5_readLines_75 : decode cX5_readLines 75 = .ok (.bipush 59, 2) := by decide +kernel
theorem dX5_readLines_77 : decode cX5_readLines 77 = .ok (.if_icmp .eq 6, 3) := by decide +kernel
theorem dX5_readLines_80 : decode cX5_readLines 80 = .ok (.goto 22, 3) := by decide +kernel
theorem dX5_readLines_83 : decode cX5_readLines 83 = .ok (.aload_n 0, 1) := by decide +kernel
theorem dX5_readLines_84 : decode cX5_readLines 84 = .ok (.getfield 25, 3) := by decide +kernel
theorem dX5_readLines_87 : decode cX5_readLines 87 = .ok (.dup, 1) := by decide +kernel
theorem dX5_readLines_88 : decode cX5_readLines 88 = .ok (.getfield 41, 3) := by decide +kernel
theorem dX5_readLines_91 : decode cX5_readLines 91 = .ok (.iconst 1, 1) := by decide +kernel
theorem dX5_readLines_92 : decode cX5_readLines 92 = .ok (.iadd, 1) := by decide +kernel
theorem dX5_readLines_93 : decode cX5_readLines 93 = .ok (.putfield 41, 3) := by decide +kernel
theorem dX5_readLines_96 : decode cX5_readLines 96 = .ok (.iinc 1 1, 3) := by decide +kernel
theorem dX5_readLines_99 : decode cX5_readLines 99 = .ok (.goto (-72), 3) := by decide +kernel
theorem dX5_readLines_102 : decode cX5_readLines 102 = .ok (.aload_n 0, 1) := by decide +kernel
theorem dX5_readLines_103 : decode cX5_readLines 103 = .ok (.getfield 25, 3) := by decide +kernel
theorem dX5_readLines_106 : decode cX5_readLines 106 = .ok (.invokevirtual 57, 3) := by decide +kernel
theorem dX5_readLines_109 : decode cX5_readLines 109 = .ok (.iconst (-1), 1) := by decide +kernel
theorem dX5_readLines_110 : decode cX5_readLines 110 = .ok (.if_icmp .ne 7, 3) := by decide +kernel
theorem dX5_readLines_113 : decode cX5_readLines 113 = .ok (.iconst (-1), 1) := by decide +kernel
theorem dX5_readLines_114 : decode cX5_readLines 114 = .ok (.goto 10, 3) := by decide +kernel
theorem dX5_readLines_117 : decode cX5_readLines 117 = .ok (.aload_n 0, 1) := by decide +kernel
theorem dX5_readLines_118 : decode cX5_readLines 118 = .ok (.getfield 25, 3) := by decide +kernel
theorem dX5_readLines_121 : decode cX5_readLines 121 = .ok (.getfield 41, 3) := by decide +kernel
theorem dX5_readLines_124 : decode cX5_readLines 124 = .ok (.ireturn, 1) := by decide +kernel
theorem dX5_readLine_0 : decode cX5_readLine 0 = .ok (.aload_n 0, 1) := by decide +kernel
theorem dX5_readLine_1 : decode cX5_readLine 1 = .ok (.getfield 25, 3) := by decide +kernel
theorem dX5_readLine_4 : decode cX5_readLine 4 = .ok (.invokevirtual 57, 3) := by decide +kernel
theorem dX5_readLine_7 : decode cX5_readLine 7 = .ok (.istore_n 1, 1) := by decide +kernel
theorem dX5_readLine_8 : decode cX5_readLine 8 = .ok (.iload_n 1, 1) := by decide +kernel
theorem dX5_readLine_9 : decode cX5_readLine 9 = .ok (.lookupswitch 165 #[(99, 92), (107, 92), (114, 92), (115, 120), (117, 59), (119, 155)], 59) := by decide +kernel
theorem dX5_readLine_68 : decode cX5_readLine 68 = .ok (.aload_n 0, 1) := by decide +kernel
theorem dX5_readLine_69 : decode cX5_readLine 69 = .ok (.iload_n 1, 1) := by decide +kernel
theorem dX5_readLine_70 : decode cX5_readLine 70 = .ok (.invokevirtual 61, 3) := by decide +kernel
theorem dX5_readLine_73 : decode cX5_readLine 73 = .ok (.aload_n 0, 1) := by decide +kernel
theorem dX5_readLine_74 : decode cX5_readLine 74 = .ok (.invokevirtual 65, 3) := by decide +kernel
theorem dX5_readLine_77 : decode cX5_readLine 77 = .ok (.ifCond .eq 22, 3) := by decide +kernel
theorem dX5_readLine_80 : decode cX5_readLine 80 = .ok (.aload_n 0, 1) := by decide +kernel
theorem dX5_readLine_81 : decode cX5_readLine 81 = .ok (.invokevirtual 65, 3) := by decide +kernel
theorem dX5_readLine_84 : decode cX5_readLine 84 = .ok (.ifCond .eq 15, 3) := by decide +kernel
theorem dX5_readLine_87 : decode cX5_readLine 87 = .ok (.aload_n 0, 1) := by decide +kernel
theorem dX5_readLine_88 : decode cX5_readLine 88 = .ok (.iconst 1, 1) := by decide +kernel
theorem dX5_readLine_89 : decode cX5_readLine 89 = .ok (.invokevirtual 68, 3) := by decide +kernel
theorem dX5_readLine_92 : decode cX5_readLine 92 = .ok (.ifCond .eq 7, 3) := by decide +kernel
theorem dX5_readLine_95 : decode cX5_readLine 95 = .ok (.iconst 1, 1) := by decide +kernel
theorem dX5_readLine_96 : decode cX5_readLine 96 = .ok (.goto 4, 3) := by decide +kernel
theorem dX5_readLine_99 : decode cX5_readLine 99 = .ok (.iconst 0, 1) := by decide +kernel
theorem dX5_readLine_100 : decode cX5_readLine 100 = .ok (.ireturn, 1) := by decide +kernel
theorem dX5_readLine_101 : decode cX5_readLine 101 = .ok (.aload_n 0, 1) := by decide +kernel
theorem dX5_readLine_102 : decode cX5_readLine 102 = .ok (.iload_n 1, 1) := by decide +kernel
theorem dX5_readLine_103 : decode cX5_readLine 103 = .ok (.invokevirtual 61, 3) := by decide +kernel
theorem dX5_readLine_106 : decode cX5_readLine 106 = .ok (.aload_n 0, 1) := by decide +kernel
theorem dX5_readLine_107 : decode cX5_readLine 107 = .ok (.invokevirtual 65, 3) := by decide +kernel
theorem dX5_readLine_110 : decode cX5_readLine 110 = .ok (.ifCond .eq 17, 3) := by decide +kernel
theorem dX5_readLine_113 : decode cX5_readLine 113 = .ok (.aload_n 0, 1) := by decide +kernel
theorem dX5_readLine_114 : decode cX5_readLine 114 = .ok (.sipush 300, 3) := by decide +kernel
theorem dX5_readLine_117 : decode cX5_readLine 117 = .ok (.invokevirtual 68, 3) := by decide +kernel
theorem dX5_readLine_120 : decode cX5_readLine 120 = .ok (.ifCond .eq 7, 3) := by decide +kernel
theorem dX5_readLine_123 : decode cX5_readLine 123 = .ok (.iconst 1, 1) := by decide +kernel
theorem dX5_readLine_124 : decode cX5_readLine 124 = .ok (.goto 4, 3) := by decide +kernel
theorem dX5_readLine_127 : decode cX5_readLine 127 = .ok (.iconst 0, 1) := by decide +kernel
theorem dX5_readLine_128 : decode cX5_readLine 128 = .ok (.ireturn, 1) := by decide +kernel
theorem dX5_readLine_129 : decode cX5_readLine 129 = .ok (.aload_n 0, 1) := by decide +kernel
theorem dX5_readLine_130 : decode cX5_readLine 130 = .ok (.iload_n 1, 1) := by decide +kernel
theorem dX5_readLine_131 : decode cX5_readLine 131 = .ok (.invokevirtual 61, 3) := by decide +kernel
theorem dX5_readLine_134 : decode cX5_readLine 134 = .ok (.aload_n 0, 1) := by decide +kernel
theorem dX5_readLine_135 : decode cX5_readLine 135 = .ok (.invokevirtual 72, 3) := by decide +kernel
theorem dX5_readLine_138 : decode cX5_readLine 138 = .ok (.ifCond .eq 24, 3) := by decide +kernel
theorem dX5_readLine_141 : decode cX5_readLine 141 = .ok (.aload_n 0, 1) := by decide +kernel
theorem dX5_readLine_142 : decode cX5_readLine 142 = .ok (.invokevirtual 65, 3) := by decide +kernel
theorem dX5_readLine_145 : decode cX5_readLine 145 = .ok (.ifCond .eq 17, 3) := by decide +kernel
theorem dX5_readLine_148 : decode cX5_readLine 148 = .ok (.aload_n 0, 1) := by decide +kernel
theorem dX5_readLine_149 : decode cX5_readLine 149 = .ok (.sipush 300, 3) := by decide +kernel
theorem dX5_readLine_152 : decode cX5_readLine 152 = .ok (.invokevirtual 68, 3) := by decide +kernel
theorem dX5_readLine_155 : decode cX5_readLine 155 = .ok (.ifCond .eq 7, 3) := by decide +kernel
theorem dX5_readLine_158 : decode cX5_readLine 158 = .ok (.iconst 1, 1) := by decide +kernel
theorem dX5_readLine_159 : decode cX5_readLine 159 = .ok (.goto 4, 3) := by decide +kernel
theorem dX5_readLine_162 : decode cX5_readLine 162 = .ok (.iconst 0, 1) := by decide +kernel
theorem dX5_readLine_163 : decode cX5_readLine 163 = .ok (.ireturn, 1) := by decide +kernel
theorem dX5_readLine_164 : decode cX5_readLine 164 = .ok (.aload_n 0, 1) := by decide +kernel
theorem dX5_readLine_165 : decode cX5_readLine 165 = .ok (.iload_n 1, 1) := by decide +kernel
theorem dX5_readLine_166 : decode cX5_readLine 166 = .ok (.invokevirtual 61, 3) := by decide +kernel
theorem dX5_readLine_169 : decode cX5_readLine 169 = .ok (.aload_n 0, 1) := by decide +kernel
theorem dX5_readLine_170 : decode cX5_readLine 170 = .ok (.invokevirtual 75, 3) := by decide +kernel
theorem dX5_readLine_173 : decode cX5_readLine 173 = .ok (.ireturn, 1) := by decide +kernel
theorem dX5_readLine_174 : decode cX5_readLine 174 = .ok (.iconst 0, 1) := by decide +kernel
theorem dX5_readLine_175 : decode cX5_readLine 175 = .ok (.ireturn, 1) := by decide +kernel
theorem dX5_addSign_0 : decode cX5_addSign 0 = .ok (.aload_n 0, 1) := by decide +kernel
theorem dX5_addSign_1 : decode cX5_addSign 1 = .ok (.getfield 25, 3) := by decide +kernel
theorem dX5_addSign_4 : decode cX5_addSign 4 = .ok (.dup, 1) := by decide +kernel
theorem dX5_addSign_5 : decode cX5_addSign 5 = .ok (.getfield 41, 3) := by decide +kernel
theorem dX5_addSign_8 : decode cX5_addSign 8 = .ok (.iconst 1, 1) := by decide +kernel
theorem dX5_addSign_9 : decode cX5_addSign 9 = .ok (.iadd, 1) := by decide +kernel
theorem dX5_addSign_10 : decode cX5_addSign 10 = .ok (.putfield 41, 3) := by decide +kernel
theorem dX5_addSign_13 : decode cX5_addSign 13 = .ok (.aload_n 0, 1) := by decide +kernel
theorem dX5_addSign_14 : decode cX5_addSign 14 = .ok (.iload_n 1, 1) := by decide +kernel
theorem dX5_addSign_15 : decode cX5_addSign 15 = .ok (.invokevirtual 78, 3) := by decide +kernel
theorem dX5_addSign_18 : decode cX5_addSign 18 = .ok (.return_, 1) := by decide +kernel
theorem dX5_addWord_0 : decode cX5_addWord 0 = .ok (.aload_n 0, 1) := by decide +kernel
theorem dX5_addWord_1 : decode cX5_addWord 1 = .ok (.getfield 47, 3) := by decide +kernel
theorem dX5_addWord_4 : decode cX5_addWord 4 = .ok (.sipush 300, 3) := by decide +kernel
theorem dX5_addWord_7 : decode cX5_addWord 7 = .ok (.if_icmp .ge 23, 3) := by decide +kernel
theorem dX5_addWord_10 : decode cX5_addWord 10 = .ok (.aload_n 0, 1) := by decide +kernel
theorem dX5_addWord_11 : decode cX5_addWord 11 = .ok (.getfield 9, 3) := by decide +kernel
theorem dX5_addWord_14 : decode cX5_addWord 14 = .ok (.aload_n 0, 1) := by decide +kernel
theorem dX5_addWord_15 : decode cX5_addWord 15 = .ok (.getfield 47, 3) := by decide +kernel
theorem dX5_addWord_18 : decode cX5_addWord 18 = .ok (.iload_n 1, 1) := by decide +kernel
theorem dX5_addWord_19 : decode cX5_addWord 19 = .ok (.iastore, 1) := by decide +kernel
theorem dX5_addWord_20 : decode cX5_addWord 20 = .ok (.aload_n 0, 1) := by decide +kernel
theorem dX5_addWord_21 : decode cX5_addWord 21 = .ok (.dup, 1) := by decide +kernel
theorem dX5_addWord_22 : decode cX5_addWord 22 = .ok (.getfield 47, 3) := by decide +kernel
theorem dX5_addWord_25 : decode cX5_addWord 25 = .ok (.iconst 1, 1) := by decide +kernel
theorem dX5_addWord_26 : decode cX5_addWord 26 = .ok (.iadd, 1) := by decide +kernel
theorem dX5_addWord_27 : decode cX5_addWord 27 = .ok (.putfield 47, 3) := by decide +kernel
theorem dX5_addWord_30 : decode cX5_addWord 30 = .ok (.return_, 1) := by decide +kernel
theorem dX5_readLetter_0 : decode cX5_readLetter 0 = .ok (.aload_n 0, 1) := by decide +kernel
theorem dX5_readLetter_1 : decode cX5_readLetter 1 = .ok (.getfield 25, 3) := by decide +kernel
theorem dX5_readLetter_4 : decode cX5_readLetter 4 = .ok (.invokevirtual 81, 3) := by decide +kernel
theorem dX5_readLetter_7 : decode cX5_readLetter 7 = .ok (.istore_n 1, 1) := by decide +kernel
theorem dX5_readLetter_8 : decode cX5_readLetter 8 = .ok (.iload_n 1, 1) := by decide +kernel
theorem dX5_readLetter_9 : decode cX5_readLetter 9 = .ok (.iconst (-1), 1) := by decide +kernel
theorem dX5_readLetter_10 : decode cX5_readLetter 10 = .ok (.if_icmp .ne 5, 3) := by decide +kernel
theorem dX5_readLetter_13 : decode cX5_readLetter 13 = .ok (.iconst 0, 1) := by decide +kernel
theorem dX5_readLetter_14 : decode cX5_readLetter 14 = .ok (.ireturn, 1) := by decide +kernel
theorem dX5_readLetter_15 : decode cX5_readLetter 15 = .ok (.aload_n 0, 1) := by decide +kernel
theorem dX5_readLetter_16 : decode cX5_readLetter 16 = .ok (.iload_n 1, 1) := by decide +kernel
theorem dX5_readLetter_17 : decode cX5_readLetter 17 = .ok (.invokevirtual 61, 3) := by decide +kernel
theorem dX5_readLetter_20 : decode cX5_readLetter 20 = .ok (.iconst 1, 1) := by decide +kernel
theorem dX5_readLetter_21 : decode cX5_readLetter 21 = .ok (.ireturn, 1) := by decide +kernel
theorem dX5_readMoreLetters_0 : decode cX5_readMoreLetters 0 = .ok (.iconst 0, 1) := by decide +kernel
theorem dX5_readMoreLetters_1 : decode cX5_readMoreLetters 1 = .ok (.istore_n 2, 1) := by decide +kernel
theorem dX5_readMoreLetters_2 : decode cX5_readMoreLetters 2 = .ok (.iload_n 2, 1) := by decide +kernel
theorem dX5_readMoreLetters_3 : decode cX5_readMoreLetters 3 = .ok (.iload_n 1, 1) := by decide +kernel
theorem dX5_readMoreLetters_4 : decode cX5_readMoreLetters 4 = .ok (.if_icmp .ge 19, 3) := by decide +kernel
theorem dX5_readMoreLetters_7 : decode cX5_readMoreLetters 7 = .ok (.aload_n 0, 1) := by decide +kernel
theorem dX5_readMoreLetters_8 : decode cX5_readMoreLetters 8 = .ok (.invokevirtual 65, 3) := by decide +kernel
theorem dX5_readMoreLetters_11 : decode cX5_readMoreLetters 11 = .ok (.ifCond .ne 6, 3) := by decide +kernel
theorem dX5_readMoreLetters_14 : decode cX5_readMoreLetters 14 = .ok (.goto 9, 3) := by decide +kernel
theorem dX5_readMoreLetters_17 : decode cX5_readMoreLetters 17 = .ok (.iinc 2 1, 3) := by decide +kernel
theorem dX5_readMoreLetters_20 : decode cX5_readMoreLetters 20 = .ok (.goto (-18), 3) := by decide +kernel
theorem dX5_readMoreLetters_23 : decode cX5_readMoreLetters 23 = .ok (.iconst 1, 1) := by decide +kernel
theorem dX5_readMoreLetters_24 : decode cX5_readMoreLetters 24 = .ok (.ireturn, 1) := by decide +kernel
theorem dX5_readNumber_0 : decode cX5_readNumber 0 = .ok (.aload_n 0, 1) := by decide +kernel
theorem dX5_readNumber_1 : decode cX5_readNumber 1 = .ok (.getfield 25, 3) := by decide +kernel
theorem dX5_readNumber_4 : decode cX5_readNumber 4 = .ok (.invokevirtual 84, 3) := by decide +kernel
theorem dX5_readNumber_7 : decode cX5_readNumber 7 = .ok (.istore_n 1, 1) := by decide +kernel
theorem dX5_readNumber_8 : decode cX5_readNumber 8 = .ok (.iload_n 1, 1) := by decide +kernel
theorem dX5_readNumber_9 : decode cX5_readNumber 9 = .ok (.iconst (-1), 1) := by decide +kernel
theorem dX5_readNumber_10 : decode cX5_readNumber 10 = .ok (.if_icmp .ne 5, 3) := by decide +kernel
theorem dX5_readNumber_13 : decode cX5_readNumber 13 = .ok (.iconst 0, 1) := by decide +kernel
theorem dX5_readNumber_14 : decode cX5_readNumber 14 = .ok (.ireturn, 1) := by decide +kernel
theorem dX5_readNumber_15 : decode cX5_readNumber 15 = .ok (.iconst 0, 1) := by decide +kernel
theorem dX5_readNumber_16 : decode cX5_readNumber 16 = .ok (.istore_n 2, 1) := by decide +kernel
theorem dX5_readNumber_17 : decode cX5_readNumber 17 = .ok (.iconst 0, 1) := by decide +kernel
theorem dX5_readNumber_18 : decode cX5_readNumber 18 = .ok (.istore_n 3, 1) := by decide +kernel
theorem dX5_readNumber_19 : decode cX5_readNumber 19 = .ok (.iload_n 3, 1) := by decide +kernel
theorem dX5_readNumber_20 : decode cX5_readNumber 20 = .ok (.iconst 3, 1) := by decide +kernel
theorem dX5_readNumber_21 : decode cX5_readNumber 21 = .ok (.if_icmp .ge 42, 3) := by decide +kernel
theorem dX5_readNumber_24 : decode cX5_readNumber 24 = .ok (.iload_n 1, 1) := by decide +kernel
theorem dX5_readNumber_25 : decode cX5_readNumber 25 = .ok (.iconst (-1), 1) := by decide +kernel
theorem dX5_readNumber_26 : decode cX5_readNumber 26 = .ok (.if_icmp .eq 37, 3) := by decide +kernel
theorem dX5_readNumber_29 : decode cX5_readNumber 29 = .ok (.bipush 10, 2) := by decide +kernel
theorem dX5_readNumber_31 : decode cX5_readNumber 31 = .ok (.iload_n 2, 1) := by decide +kernel
theorem dX5_readNumber_32 : decode cX5_readNumber 32 = .ok (.imul, 1) := by decide +kernel
theorem dX5_readNumber_33 : decode cX5_readNumber 33 = .ok (.iload_n 1, 1) := by decide +kernel
theorem dX5_readNumber_34 : decode cX5_readNumber 34 = .ok (.iadd, 1) := by decide +kernel
theorem dX5_readNumber_35 : decode cX5_readNumber 35 = .ok (.istore_n 2, 1) := by decide +kernel
theorem dX5_readNumber_36 : decode cX5_readNumber 36 = .ok (.aload_n 0, 1) := by decide +kernel
theorem dX5_readNumber_37 : decode cX5_readNumber 37 = .ok (.getfield 25, 3) := by decide +kernel
theorem dX5_readNumber_40 : decode cX5_readNumber 40 = .ok (.dup, 1) := by decide +kernel
theorem dX5_readNumber_41 : decode cX5_readNumber 41 = .ok (.getfield 41, 3) := by decide +kernel
theorem dX5_readNumber_44 : decode cX5_readNumber 44 = .ok (.iconst 1, 1) := by decide +kernel
theorem dX5_readNumber_45 : decode cX5_readNumber 45 = .ok (.iadd, 1) := by decide +kernel
theorem dX5_readNumber_46 : decode cX5_readNumber 46 = .ok (.putfield 41, 3) := by decide +kernel
theorem dX5_readNumber_49 : decode cX5_readNumber 49 = .ok (.aload_n 0, 1) := by decide +kernel
theorem dX5_readNumber_50 : decode cX5_readNumber 50 = .ok (.getfield 25, 3) := by decide +kernel
theorem dX5_readNumber_53 : decode cX5_readNumber 53 = .ok (.invokevirtual 84, 3) := by decide +kernel
theorem dX5_readNumber_56 : decode cX5_readNumber 56 = .ok (.istore_n 1, 1) := by decide +kernel
theorem dX5_readNumber_57 : decode cX5_readNumber 57 = .ok (.iinc 3 1, 3) := by decide +kernel
theorem dX5_readNumber_60 : decode cX5_readNumber 60 = .ok (.goto (-41), 3) := by decide +kernel
theorem dX5_readNumber_63 : decode cX5_readNumber 63 = .ok (.aload_n 0, 1) := by decide +kernel
theorem dX5_readNumber_64 : decode cX5_readNumber 64 = .ok (.bipush 8, 2) := by decide +kernel
theorem dX5_readNumber_66 : decode cX5_readNumber 66 = .ok (.iload_n 2, 1) := by decide +kernel
theorem dX5_readNumber_67 : decode cX5_readNumber 67 = .ok (.iadd, 1) := by decide +kernel
theorem dX5_readNumber_68 : decode cX5_readNumber 68 = .ok (.invokevirtual 78, 3) := by decide +kernel
theorem dX5_readNumber_71 : decode cX5_readNumber 71 = .ok (.iconst 1, 1) := by decide +kernel
theorem dX5_readNumber_72 : decode cX5_readNumber 72 = .ok (.ireturn, 1) := by decide +kernel
theorem dX5_readWeights_0 : decode cX5_readWeights 0 = .ok (.iconst 0, 1) := by decide +kernel
theorem dX5_readWeights_1 : decode cX5_readWeights 1 = .ok (.istore_n 1, 1) := by decide +kernel
theorem dX5_readWeights_2 : decode cX5_readWeights 2 = .ok (.iload_n 1, 1) := by decide +kernel
theorem dX5_readWeights_3 : decode cX5_readWeights 3 = .ok (.sipush 300, 3) := by decide +kernel
theorem dX5_readWeights_6 : decode cX5_readWeights 6 = .ok (.if_icmp .gt 39, 3) := by decide +kernel
theorem dX5_readWeights_9 : decode cX5_readWeights 9 = .ok (.aload_n 0, 1) := by decide +kernel
theorem dX5_readWeights_10 : decode cX5_readWeights 10 = .ok (.invokevirtual 65, 3) := by decide +kernel
theorem dX5_readWeights_13 : decode cX5_readWeights 13 = .ok (.ifCond .eq 10, 3) := by decide +kernel
theorem dX5_readWeights_16 : decode cX5_readWeights 16 = .ok (.aload_n 0, 1) := by decide +kernel
theorem dX5_readWeights_17 : decode cX5_readWeights 17 = .ok (.invokevirtual 72, 3) := by decide +kernel
theorem dX5_readWeights_20 : decode cX5_readWeights 20 = .ok (.ifCond .ne 5, 3) := by decide +kernel
theorem dX5_readWeights_23 : decode cX5_readWeights 23 = .ok (.iconst 0, 1) := by decide +kernel
theorem dX5_readWeights_24 : decode cX5_readWeights 24 = .ok (.ireturn, 1) := by decide +kernel
theorem dX5_readWeights_25 : decode cX5_readWeights 25 = .ok (.aload_n 0, 1) := by decide +kernel
theorem dX5_readWeights_26 : decode cX5_readWeights 26 = .ok (.getfield 25, 3) := by decide +kernel
theorem dX5_readWeights_29 : decode cX5_readWeights 29 = .ok (.invokevirtual 81, 3) := by decide +kernel
theorem dX5_readWeights_32 : decode cX5_readWeights 32 = .ok (.iconst (-1), 1) := by decide +kernel
theorem dX5_readWeights_33 : decode cX5_readWeights 33 = .ok (.if_icmp .ne 6, 3) := by decide +kernel
theorem dX5_readWeights_36 : decode cX5_readWeights 36 = .ok (.goto 9, 3) := by decide +kernel
theorem dX5_readWeights_39 : decode cX5_readWeights 39 = .ok (.iinc 1 1, 3) := by decide +kernel
theorem dX5_readWeights_42 : decode cX5_readWeights 42 = .ok (.goto (-40), 3) := by decide +kernel
theorem dX5_readWeights_45 : decode cX5_readWeights 45 = .ok (.iconst 1, 1) := by decide +kernel
theorem dX5_readWeights_46 : decode cX5_readWeights 46 = .ok (.ireturn, 1) := by decide +kernel
theorem dX5_judgeLines_0 : decode cX5_judgeLines 0 = .ok (.aload_n 0, 1) := by decide +kernel
theorem dX5_judgeLines_1 : decode cX5_judgeLines 1 = .ok (.iconst 1, 1) := by decide +kernel
theorem dX5_judgeLines_2 : decode cX5_judgeLines 2 = .ok (.putfield 87, 3) := by decide +kernel
theorem dX5_judgeLines_5 : decode cX5_judgeLines 5 = .ok (.aload_n 0, 1) := by decide +kernel
theorem dX5_judgeLines_6 : decode cX5_judgeLines 6 = .ok (.iconst (-1), 1) := by decide +kernel
theorem dX5_judgeLines_7 : decode cX5_judgeLines 7 = .ok (.putfield 91, 3) := by decide +kernel
theorem dX5_judgeLines_10 : decode cX5_judgeLines 10 = .ok (.aload_n 0, 1) := by decide +kernel
theorem dX5_judgeLines_11 : decode cX5_judgeLines 11 = .ok (.iconst 0, 1) := by decide +kernel
theorem dX5_judgeLines_12 : decode cX5_judgeLines 12 = .ok (.putfield 94, 3) := by decide +kernel
theorem dX5_judgeLines_15 : decode cX5_judgeLines 15 = .ok (.aload_n 0, 1) := by decide +kernel
theorem dX5_judgeLines_16 : decode cX5_judgeLines 16 = .ok (.aload_n 0, 1) := by decide +kernel
theorem dX5_judgeLines_17 : decode cX5_judgeLines 17 = .ok (.getfield 50, 3) := by decide +kernel
theorem dX5_judgeLines_20 : decode cX5_judgeLines 20 = .ok (.putfield 97, 3) := by decide +kernel
theorem dX5_judgeLines_23 : decode cX5_judgeLines 23 = .ok (.aload_n 0, 1) := by decide +kernel
theorem dX5_judgeLines_24 : decode cX5_judgeLines 24 = .ok (.iconst 0, 1) := by decide +kernel
theorem dX5_judgeLines_25 : decode cX5_judgeLines 25 = .ok (.putfield 100, 3) := by decide +kernel
theorem dX5_judgeLines_28 : decode cX5_judgeLines 28 = .ok (.iconst 0, 1) := by decide +kernel
theorem dX5_judgeLines_29 : decode cX5_judgeLines 29 = .ok (.istore_n 1, 1) := by decide +kernel
theorem dX5_judgeLines_30 : decode cX5_judgeLines 30 = .ok (.iload_n 1, 1) := by decide +kernel
theorem dX5_judgeLines_31 : decode cX5_judgeLines 31 = .ok (.aload_n 0, 1) := by decide +kernel
theorem dX5_judgeLines_32 : decode cX5_judgeLines 32 = .ok (.getfield 50, 3) := by decide +kernel
theorem dX5_judgeLines_35 : decode cX5_judgeLines 35 = .ok (.if_icmp .ge 42, 3) := by decide +kernel
theorem dX5_judgeLines_38 : decode cX5_judgeLines 38 = .ok (.aload_n 0, 1) := by decide +kernel
theorem dX5_judgeLines_39 : decode cX5_judgeLines 39 = .ok (.iload_n 1, 1) := by decide +kernel
theorem dX5_judgeLines_40 : decode cX5_judgeLines 40 = .ok (.invokevirtual 103, 3) := by decide +kernel
theorem dX5_judgeLines_43 : decode cX5_judgeLines 43 = .ok (.aload_n 0, 1) := by decide +kernel
theorem dX5_judgeLines_44 : decode cX5_judgeLines 44 = .ok (.getfield 94, 3) := by decide +kernel
theorem dX5_judgeLines_47 : decode cX5_judgeLines 47 = .ok (.ifCond .eq 10, 3) := by decide +kernel
theorem dX5_judgeLines_50 : decode cX5_judgeLines 50 = .ok (.aload_n 0, 1) := by decide +kernel
theorem dX5_judgeLines_51 : decode cX5_judgeLines 51 = .ok (.iload_n 1, 1) := by decide +kernel
theorem dX5_judgeLines_52 : decode cX5_judgeLines 52 = .ok (.putfield 91, 3) := by decide +kernel
theorem dX5_judgeLines_55 : decode cX5_judgeLines 55 = .ok (.iload_n 1, 1) := by decide +kernel
theorem dX5_judgeLines_56 : decode cX5_judgeLines 56 = .ok (.ireturn, 1) := by decide +kernel
theorem dX5_judgeLines_57 : decode cX5_judgeLines 57 = .ok (.aload_n 0, 1) := by decide +kernel
theorem dX5_judgeLines_58 : decode cX5_judgeLines 58 = .ok (.dup, 1) := by decide +kernel
theorem dX5_judgeLines_59 : decode cX5_judgeLines 59 = .ok (.getfield 100, 3) := by decide +kernel
theorem dX5_judgeLines_62 : decode cX5_judgeLines 62 = .ok (.aload_n 0, 1) := by decide +kernel
theorem dX5_judgeLines_63 : decode cX5_judgeLines 63 = .ok (.iload_n 1, 1) := by decide +kernel
theorem dX5_judgeLines_64 : decode cX5_judgeLines 64 = .ok (.invokevirtual 106, 3) := by decide +kernel
theorem dX5_judgeLines_67 : decode cX5_judgeLines 67 = .ok (.ior, 1) := by decide +kernel
theorem dX5_judgeLines_68 : decode cX5_judgeLines 68 = .ok (.putfield 100, 3) := by decide +kernel
theorem dX5_judgeLines_71 : decode cX5_judgeLines 71 = .ok (.iinc 1 1, 3) := by decide +kernel
theorem dX5_judgeLines_74 : decode cX5_judgeLines 74 = .ok (.goto (-44), 3) := by decide +kernel
theorem dX5_judgeLines_77 : decode cX5_judgeLines 77 = .ok (.aload_n 0, 1) := by decide +kernel
theorem dX5_judgeLines_78 : decode cX5_judgeLines 78 = .ok (.getfield 50, 3) := by decide +kernel
theorem dX5_judgeLines_81 : decode cX5_judgeLines 81 = .ok (.ireturn, 1) := by decide +kernel
theorem dX5_firstOf_0 : decode cX5_firstOf 0 = .ok (.aload_n 0, 1) := by decide +kernel
theorem dX5_firstOf_1 : decode cX5_firstOf 1 = .ok (.getfield 15, 3) := by decide +kernel
theorem dX5_firstOf_4 : decode cX5_firstOf 4 = .ok (.iload_n 1, 1) := by decide +kernel
theorem dX5_firstOf_5 : decode cX5_firstOf 5 = .ok (.iaload, 1) := by decide +kernel
theorem dX5_firstOf_6 : decode cX5_firstOf 6 = .ok (.istore_n 2, 1) := by decide +kernel
theorem dX5_firstOf_7 : decode cX5_firstOf 7 = .ok (.aload_n 0, 1) := by decide +kernel
theorem dX5_firstOf_8 : decode cX5_firstOf 8 = .ok (.getfield 9, 3) := by decide +kernel
theorem dX5_firstOf_11 : decode cX5_firstOf 11 = .ok (.iload_n 2, 1) := by decide +kernel
theorem dX5_firstOf_12 : decode cX5_firstOf 12 = .ok (.iaload, 1) := by decide +kernel
theorem dX5_firstOf_13 : decode cX5_firstOf 13 = .ok (.lookupswitch 49 #[(107, 27), (115, 38)], 27) := by decide +kernel
theorem dX5_firstOf_40 : decode cX5_firstOf 40 = .ok (.iconst 1, 1) := by decide +kernel
theorem dX5_firstOf_41 : decode cX5_firstOf 41 = .ok (.aload_n 0, 1) := by decide +kernel
theorem dX5_firstOf_42 : decode cX5_firstOf 42 = .ok (.getfield 9, 3) := by decide +kernel
theorem dX5_firstOf_45 : decode cX5_firstOf 45 = .ok (.iload_n 2, 1) := by decide +kernel
theorem dX5_firstOf_46 : decode cX5_firstOf 46 = .ok (.iconst 1, 1) := by decide +kernel
theorem dX5_firstOf_47 : decode cX5_firstOf 47 = .ok (.iadd, 1) := by decide +kernel
theorem dX5_firstOf_48 : decode cX5_firstOf 48 = .ok (.iaload, 1) := by decide +kernel
theorem dX5_firstOf_49 : decode cX5_firstOf 49 = .ok (.ishl, 1) := by decide +kernel
theorem dX5_firstOf_50 : decode cX5_firstOf 50 = .ok (.ireturn, 1) := by decide +kernel
theorem dX5_firstOf_51 : decode cX5_firstOf 51 = .ok (.iconst 1, 1) := by decide +kernel
theorem dX5_firstOf_52 : decode cX5_firstOf 52 = .ok (.aload_n 0, 1) := by decide +kernel
theorem dX5_firstOf_53 : decode cX5_firstOf 53 = .ok (.getfield 9, 3) := by decide +kernel
theorem dX5_firstOf_56 : decode cX5_firstOf 56 = .ok (.iload_n 2, 1) := by decide +kernel
theorem dX5_firstOf_57 : decode cX5_firstOf 57 = .ok (.iconst 2, 1) := by decide +kernel
theorem dX5_firstOf_58 : decode cX5_firstOf 58 = .ok (.iadd, 1) := by decide +kernel
theorem dX5_firstOf_59 : decode cX5_firstOf 59 = .ok (.iaload, 1) := by decide +kernel
theorem dX5_firstOf_60 : decode cX5_firstOf 60 = .ok (.ishl, 1) := by decide +kernel
theorem dX5_firstOf_61 : decode cX5_firstOf 61 = .ok (.ireturn, 1) := by decide +kernel
theorem dX5_firstOf_62 : decode cX5_firstOf 62 = .ok (.iconst 0, 1) := by decide +kernel
theorem dX5_firstOf_63 : decode cX5_firstOf 63 = .ok (.ireturn, 1) := by decide +kernel
theorem dX5_judgeLine_0 : decode cX5_judgeLine 0 = .ok (.aload_n 0, 1) := by decide +kernel
theorem dX5_judgeLine_1 : decode cX5_judgeLine 1 = .ok (.getfield 15, 3) := by decide +kernel
theorem dX5_judgeLine_4 : decode cX5_judgeLine 4 = .ok (.iload_n 1, 1) := by decide +kernel
theorem dX5_judgeLine_5 : decode cX5_judgeLine 5 = .ok (.iaload, 1) := by decide +kernel
theorem dX5_judgeLine_6 : decode cX5_judgeLine 6 = .ok (.iconst 1, 1) := by decide +kernel
theorem dX5_judgeLine_7 : decode cX5_judgeLine 7 = .ok (.iadd, 1) := by decide +kernel
theorem dX5_judgeLine_8 : decode cX5_judgeLine 8 = .ok (.istore_n 2, 1) := by decide +kernel
theorem dX5_judgeLine_9 : decode cX5_judgeLine 9 = .ok (.aload_n 0, 1) := by decide +kernel
theorem dX5_judgeLine_10 : decode cX5_judgeLine 10 = .ok (.getfield 15, 3) := by decide +kernel
theorem dX5_judgeLine_13 : decode cX5_judgeLine 13 = .ok (.iload_n 1, 1) := by decide +kernel
theorem dX5_judgeLine_14 : decode cX5_judgeLine 14 = .ok (.iconst 1, 1) := by decide +kernel
theorem dX5_judgeLine_15 : decode cX5_judgeLine 15 = .ok (.iadd, 1) := by decide +kernel
theorem dX5_judgeLine_16 : decode cX5_judgeLine 16 = .ok (.iaload, 1) := by decide +kernel
theorem dX5_judgeLine_17 : decode cX5_judgeLine 17 = .ok (.istore_n 3, 1) := by decide +kernel
theorem dX5_judgeLine_18 : decode cX5_judgeLine 18 = .ok (.aload_n 0, 1) := by decide +kernel
theorem dX5_judgeLine_19 : decode cX5_judgeLine 19 = .ok (.iload_n 2, 1) := by decide +kernel
theorem dX5_judgeLine_20 : decode cX5_judgeLine 20 = .ok (.iload_n 3, 1) := by decide +kernel
theorem dX5_judgeLine_21 : decode cX5_judgeLine 21 = .ok (.invokevirtual 110, 3) := by decide +kernel
theorem dX5_judgeLine_24 : decode cX5_judgeLine 24 = .ok (.istore 4, 2) := by decide +kernel
theorem dX5_judgeLine_26 : decode cX5_judgeLine 26 = .ok (.aload_n 0, 1) := by decide +kernel
theorem dX5_judgeLine_27 : decode cX5_judgeLine 27 = .ok (.getfield 21, 3) := by decide +kernel
theorem dX5_judgeLine_30 : decode cX5_judgeLine 30 = .ok (.iload 4, 2) := by decide +kernel
theorem dX5_judgeLine_32 : decode cX5_judgeLine 32 = .ok (.invokevirtual 114, 3) := by decide +kernel
theorem dX5_judgeLine_35 : decode cX5_judgeLine 35 = .ok (.ifCond .ne 11, 3) := by decide +kernel
theorem dX5_judgeLine_38 : decode cX5_judgeLine 38 = .ok (.aload_n 0, 1) := by decide +kernel
theorem dX5_judgeLine_39 : decode cX5_judgeLine 39 = .ok (.iconst 1, 1) := by decide +kernel
theorem dX5_judgeLine_40 : decode cX5_judgeLine 40 = .ok (.putfield 94, 3) := by decide +kernel
theorem dX5_judgeLine_43 : decode cX5_judgeLine 43 = .ok (.goto 45, 3) := by decide +kernel
theorem dX5_judgeLine_46 : decode cX5_judgeLine 46 = .ok (.iload 4, 2) := by decide +kernel
theorem dX5_judgeLine_48 : decode cX5_judgeLine 48 = .ok (.invokestatic 119, 3) := by decide +kernel
theorem dX5_judgeLine_51 : decode cX5_judgeLine 51 = .ok (.aload_n 0, 1) := by decide +kernel
theorem dX5_judgeLine_52 : decode cX5_judgeLine 52 = .ok (.iload_n 2, 1) := by decide +kernel
theorem dX5_judgeLine_53 : decode cX5_judgeLine 53 = .ok (.iload_n 3, 1) := by decide +kernel
theorem dX5_judgeLine_54 : decode cX5_judgeLine 54 = .ok (.invokevirtual 124, 3) := by decide +kernel
theorem dX5_judgeLine_57 : decode cX5_judgeLine 57 = .ok (.if_icmp .ge 11, 3) := by decide +kernel
theorem dX5_judgeLine_60 : decode cX5_judgeLine 60 = .ok (.aload_n 0, 1) := by decide +kernel
theorem dX5_judgeLine_61 : decode cX5_judgeLine 61 = .ok (.iconst 2, 1) := by decide +kernel
theorem dX5_judgeLine_62 : decode cX5_judgeLine 62 = .ok (.putfield 94, 3) := by decide +kernel
theorem dX5_judgeLine_65 : decode cX5_judgeLine 65 = .ok (.goto 23, 3) := by decide +kernel
theorem dX5_judgeLine_68 : decode cX5_judgeLine 68 = .ok (.aload_n 0, 1) := by decide +kernel
theorem dX5_judgeLine_69 : decode cX5_judgeLine 69 = .ok (.aload_n 0, 1) := by decide +kernel
theorem dX5_judgeLine_70 : decode cX5_judgeLine 70 = .ok (.aload_n 0, 1) := by decide +kernel
theorem dX5_judgeLine_71 : decode cX5_judgeLine 71 = .ok (.getfield 9, 3) := by decide +kernel
theorem dX5_judgeLine_74 : decode cX5_judgeLine 74 = .ok (.iload_n 2, 1) := by decide +kernel
theorem dX5_judgeLine_75 : decode cX5_judgeLine 75 = .ok (.iconst 1, 1) := by decide +kernel
theorem dX5_judgeLine_76 : decode cX5_judgeLine 76 = .ok (.isub, 1) := by decide +kernel
theorem dX5_judgeLine_77 : decode cX5_judgeLine 77 = .ok (.iaload, 1) := by decide +kernel
theorem dX5_judgeLine_78 : decode cX5_judgeLine 78 = .ok (.iload_n 2, 1) := by decide +kernel
theorem dX5_judgeLine_79 : decode cX5_judgeLine 79 = .ok (.iload_n 3, 1) := by decide +kernel
theorem dX5_judgeLine_80 : decode cX5_judgeLine 80 = .ok (.iload 4, 2) := by decide +kernel
theorem dX5_judgeLine_82 : decode cX5_judgeLine 82 = .ok (.invokevirtual 127, 3) := by decide +kernel
theorem dX5_judgeLine_85 : decode cX5_judgeLine 85 = .ok (.putfield 94, 3) := by decide +kernel
theorem dX5_judgeLine_88 : decode cX5_judgeLine 88 = .ok (.aload_n 0, 1) := by decide +kernel
theorem dX5_judgeLine_89 : decode cX5_judgeLine 89 = .ok (.getfield 94, 3) := by decide +kernel
theorem dX5_judgeLine_92 : decode cX5_judgeLine 92 = .ok (.ifCond .ne 17, 3) := by decide +kernel
theorem dX5_judgeLine_95 : decode cX5_judgeLine 95 = .ok (.aload_n 0, 1) := by decide +kernel
theorem dX5_judgeLine_96 : decode cX5_judgeLine 96 = .ok (.iload_n 1, 1) := by decide +kernel
theorem dX5_judgeLine_97 : decode cX5_judgeLine 97 = .ok (.invokevirtual 131, 3) := by decide +kernel
theorem dX5_judgeLine_100 : decode cX5_judgeLine 100 = .ok (.ifCond .eq 9, 3) := by decide +kernel
theorem dX5_judgeLine_103 : decode cX5_judgeLine 103 = .ok (.aload_n 0, 1) := by decide +kernel
theorem dX5_judgeLine_104 : decode cX5_judgeLine 104 = .ok (.bipush 6, 2) := by decide +kernel
theorem dX5_judgeLine_106 : decode cX5_judgeLine 106 = .ok (.putfield 94, 3) := by decide +kernel
theorem dX5_judgeLine_109 : decode cX5_judgeLine 109 = .ok (.return_, 1) := by decide +kernel
theorem dX5_lettersOf_0 : decode cX5_lettersOf 0 = .ok (.iconst 0, 1) := by decide +kernel
theorem dX5_lettersOf_1 : decode cX5_lettersOf 1 = .ok (.istore_n 3, 1) := by decide +kernel
theorem dX5_lettersOf_2 : decode cX5_lettersOf 2 = .ok (.iload_n 1, 1) := by decide +kernel
theorem dX5_lettersOf_3 : decode cX5_lettersOf 3 = .ok (.istore 4, 2) := by decide +kernel
theorem dX5_lettersOf_5 : decode cX5_lettersOf 5 = .ok (.iload 4, 2) := by decide +kernel
theorem dX5_lettersOf_7 : decode cX5_lettersOf 7 = .ok (.iload_n 2, 1) := by decide +kernel
theorem dX5_lettersOf_8 : decode cX5_lettersOf 8 = .ok (.if_icmp .ge 33, 3) := by decide +kernel
theorem dX5_lettersOf_11 : decode cX5_lettersOf 11 = .ok (.aload_n 0, 1) := by decide +kernel
theorem dX5_lettersOf_12 : decode cX5_lettersOf 12 = .ok (.getfield 9, 3) := by decide +kernel
theorem dX5_lettersOf_15 : decode cX5_lettersOf 15 = .ok (.iload 4, 2) := by decide +kernel
theorem dX5_lettersOf_17 : decode cX5_lettersOf 17 = .ok (.iaload, 1) := by decide +kernel
theorem dX5_lettersOf_18 : decode cX5_lettersOf 18 = .ok (.bipush 8, 2) := by decide +kernel
theorem dX5_lettersOf_20 : decode cX5_lettersOf 20 = .ok (.if_icmp .ge 15, 3) := by decide +kernel
theorem dX5_lettersOf_23 : decode cX5_lettersOf 23 = .ok (.iload_n 3, 1) := by decide +kernel
theorem dX5_lettersOf_24 : decode cX5_lettersOf 24 = .ok (.iconst 1, 1) := by decide +kernel
theorem dX5_lettersOf_25 : decode cX5_lettersOf 25 = .ok (.aload_n 0, 1) := by decide +kernel
theorem dX5_lettersOf_26 : decode cX5_lettersOf 26 = .ok (.getfield 9, 3) := by decide +kernel
theorem dX5_lettersOf_29 : decode cX5_lettersOf 29 = .ok (.iload 4, 2) := by decide +kernel
theorem dX5_lettersOf_31 : decode cX5_lettersOf 31 = .ok (.iaload, 1) := by decide +kernel
theorem dX5_lettersOf_32 : decode cX5_lettersOf 32 = .ok (.ishl, 1) := by decide +kernel
theorem dX5_lettersOf_33 : decode cX5_lettersOf 33 = .ok (.ior, 1) := by decide +kernel
theorem dX5_lettersOf_34 : decode cX5_lettersOf 34 = .ok (.istore_n 3, 1) := by decide +kernel
theorem dX5_lettersOf_35 : decode cX5_lettersOf 35 = .ok (.iinc 4 1, 3) := by decide +kernel
theorem dX5_lettersOf_38 : decode cX5_lettersOf 38 = .ok (.goto (-33), 3) := by decide +kernel
theorem dX5_lettersOf_41 : decode cX5_lettersOf 41 = .ok (.iload_n 3, 1) := by decide +kernel
theorem dX5_lettersOf_42 : decode cX5_lettersOf 42 = .ok (.ireturn, 1) := by decide +kernel
theorem dX5_countLetters_0 : decode cX5_countLetters 0 = .ok (.iconst 0, 1) := by decide +kernel
theorem dX5_countLetters_1 : decode cX5_countLetters 1 = .ok (.istore_n 3, 1) := by decide +kernel
theorem dX5_countLetters_2 : decode cX5_countLetters 2 = .ok (.iload_n 1, 1) := by decide +kernel
theorem dX5_countLetters_3 : decode cX5_countLetters 3 = .ok (.istore 4, 2) := by decide +kernel
theorem dX5_countLetters_5 : decode cX5_countLetters 5 = .ok (.iload 4, 2) := by decide +kernel
theorem dX5_countLetters_7 : decode cX5_countLetters 7 = .ok (.iload_n 2, 1) := by decide +kernel
theorem dX5_countLetters_8 : decode cX5_countLetters 8 = .ok (.if_icmp .ge 24, 3) := by decide +kernel
theorem dX5_countLetters_11 : decode cX5_countLetters 11 = .ok (.aload_n 0, 1) := by decide +kernel
theorem dX5_countLetters_12 : decode cX5_countLetters 12 = .ok (.getfield 9, 3) := by decide +kernel
theorem dX5_countLetters_15 : decode cX5_countLetters 15 = .ok (.iload 4, 2) := by decide +kernel
theorem dX5_countLetters_17 : decode cX5_countLetters 17 = .ok (.iaload, 1) := by decide +kernel
theorem dX5_countLetters_18 : decode cX5_countLetters 18 = .ok (.bipush 8, 2) := by decide +kernel
theorem dX5_countLetters_20 : decode cX5_countLetters 20 = .ok (.if_icmp .ge 6, 3) := by decide +kernel
theorem dX5_countLetters_23 : decode cX5_countLetters 23 = .ok (.iinc 3 1, 3) := by decide +kernel
theorem dX5_countLetters_26 : decode cX5_countLetters 26 = .ok (.iinc 4 1, 3) := by decide +kernel
theorem dX5_countLetters_29 : decode cX5_countLetters 29 = .ok (.goto (-24), 3) := by decide +kernel
theorem dX5_countLetters_32 : decode cX5_countLetters 32 = .ok (.iload_n 3, 1) := by decide +kernel
theorem dX5_countLetters_33 : decode cX5_countLetters 33 = .ok (.ireturn, 1) := by decide +kernel
theorem dX5_whyNotSo_0 : decode cX5_whyNotSo 0 = .ok (.aload_n 0, 1) := by decide +kernel
theorem dX5_whyNotSo_1 : decode cX5_whyNotSo 1 = .ok (.getfield 21, 3) := by decide +kernel
theorem dX5_whyNotSo_4 : decode cX5_whyNotSo 4 = .ok (.invokevirtual 134, 3) := by decide +kernel
theorem dX5_whyNotSo_7 : decode cX5_whyNotSo 7 = .ok (.istore 5, 2) := by decide +kernel
theorem dX5_whyNotSo_9 : decode cX5_whyNotSo 9 = .ok (.iload_n 1, 1) := by decide +kernel
theorem dX5_whyNotSo_10 : decode cX5_whyNotSo 10 = .ok (.lookupswitch 110 #[(99, 90), (107, 65), (115, 74), (117, 50), (119, 83)], 50) := by decide +kernel
theorem dX5_whyNotSo_60 : decode cX5_whyNotSo 60 = .ok (.aload_n 0, 1) := by decide +kernel
theorem dX5_whyNotSo_61 : decode cX5_whyNotSo 61 = .ok (.iload_n 2, 1) := by decide +kernel
theorem dX5_whyNotSo_62 : decode cX5_whyNotSo 62 = .ok (.iload_n 3, 1) := by decide +kernel
theorem dX5_whyNotSo_63 : decode cX5_whyNotSo 63 = .ok (.invokevirtual 137, 3) := by decide +kernel
theorem dX5_whyNotSo_66 : decode cX5_whyNotSo 66 = .ok (.ifCond .eq 7, 3) := by decide +kernel
theorem dX5_whyNotSo_69 : decode cX5_whyNotSo 69 = .ok (.iconst 0, 1) := by decide +kernel
theorem dX5_whyNotSo_70 : decode cX5_whyNotSo 70 = .ok (.goto 4, 3) := by decide +kernel
theorem dX5_whyNotSo_73 : decode cX5_whyNotSo 73 = .ok (.iconst 3, 1) := by decide +kernel
theorem dX5_whyNotSo_74 : decode cX5_whyNotSo 74 = .ok (.ireturn, 1) := by decide +kernel
theorem dX5_whyNotSo_75 : decode cX5_whyNotSo 75 = .ok (.aload_n 0, 1) := by decide +kernel
theorem dX5_whyNotSo_76 : decode cX5_whyNotSo 76 = .ok (.iload_n 2, 1) := by decide +kernel
theorem dX5_whyNotSo_77 : decode cX5_whyNotSo 77 = .ok (.iload_n 3, 1) := by decide +kernel
theorem dX5_whyNotSo_78 : decode cX5_whyNotSo 78 = .ok (.iload 4, 2) := by decide +kernel
theorem dX5_whyNotSo_80 : decode cX5_whyNotSo 80 = .ok (.invokevirtual 141, 3) := by decide +kernel
theorem dX5_whyNotSo_83 : decode cX5_whyNotSo 83 = .ok (.ireturn, 1) := by decide +kernel
theorem dX5_whyNotSo_84 : decode cX5_whyNotSo 84 = .ok (.aload_n 0, 1) := by decide +kernel
theorem dX5_whyNotSo_85 : decode cX5_whyNotSo 85 = .ok (.iload_n 2, 1) := by decide +kernel
theorem dX5_whyNotSo_86 : decode cX5_whyNotSo 86 = .ok (.iload_n 3, 1) := by decide +kernel
theorem dX5_whyNotSo_87 : decode cX5_whyNotSo 87 = .ok (.iload 4, 2) := by decide +kernel
theorem dX5_whyNotSo_89 : decode cX5_whyNotSo 89 = .ok (.invokevirtual 145, 3) := by decide +kernel
theorem dX5_whyNotSo_92 : decode cX5_whyNotSo 92 = .ok (.ireturn, 1) := by decide +kernel
theorem dX5_whyNotSo_93 : decode cX5_whyNotSo 93 = .ok (.aload_n 0, 1) := by decide +kernel
theorem dX5_whyNotSo_94 : decode cX5_whyNotSo 94 = .ok (.iload_n 2, 1) := by decide +kernel
theorem dX5_whyNotSo_95 : decode cX5_whyNotSo 95 = .ok (.iload_n 3, 1) := by decide +kernel
theorem dX5_whyNotSo_96 : decode cX5_whyNotSo 96 = .ok (.invokevirtual 148, 3) := by decide +kernel
theorem dX5_whyNotSo_99 : decode cX5_whyNotSo 99 = .ok (.ireturn, 1) := by decide +kernel
theorem dX5_whyNotSo_100 : decode cX5_whyNotSo 100 = .ok (.aload_n 0, 1) := by decide +kernel
theorem dX5_whyNotSo_101 : decode cX5_whyNotSo 101 = .ok (.getfield 29, 3) := by decide +kernel
theorem dX5_whyNotSo_104 : decode cX5_whyNotSo 104 = .ok (.iload 4, 2) := by decide +kernel
theorem dX5_whyNotSo_106 : decode cX5_whyNotSo 106 = .ok (.iload 5, 2) := by decide +kernel
theorem dX5_whyNotSo_108 : decode cX5_whyNotSo 108 = .ok (.invokevirtual 151, 3) := by decide +kernel
theorem dX5_whyNotSo_111 : decode cX5_whyNotSo 111 = .ok (.ifCond .eq 7, 3) := by decide +kernel
theorem dX5_whyNotSo_114 : decode cX5_whyNotSo 114 = .ok (.iconst 0, 1) := by decide +kernel
theorem dX5_whyNotSo_115 : decode cX5_whyNotSo 115 = .ok (.goto 4, 3) := by decide +kernel
theorem dX5_whyNotSo_118 : decode cX5_whyNotSo 118 = .ok (.iconst 5, 1) := by decide +kernel
theorem dX5_whyNotSo_119 : decode cX5_whyNotSo 119 = .ok (.ireturn, 1) := by decide +kernel
theorem dX5_whyNotSo_120 : decode cX5_whyNotSo 120 = .ok (.aload_n 0, 1) := by decide +kernel
theorem dX5_whyNotSo_121 : decode cX5_whyNotSo 121 = .ok (.getfield 29, 3) := by decide +kernel
theorem dX5_whyNotSo_124 : decode cX5_whyNotSo 124 = .ok (.iload 4, 2) := by decide +kernel
theorem dX5_whyNotSo_126 : decode cX5_whyNotSo 126 = .ok (.iload 5, 2) := by decide +kernel
theorem dX5_whyNotSo_128 : decode cX5_whyNotSo 128 = .ok (.invokevirtual 156, 3) := by decide +kernel
theorem dX5_whyNotSo_131 : decode cX5_whyNotSo 131 = .ok (.ifCond .eq 7, 3) := by decide +kernel
theorem dX5_whyNotSo_134 : decode cX5_whyNotSo 134 = .ok (.iconst 0, 1) := by decide +kernel
theorem dX5_whyNotSo_135 : decode cX5_whyNotSo 135 = .ok (.goto 4, 3) := by decide +kernel
theorem dX5_whyNotSo_138 : decode cX5_whyNotSo 138 = .ok (.iconst 5, 1) := by decide +kernel
theorem dX5_whyNotSo_139 : decode cX5_whyNotSo 139 = .ok (.ireturn, 1) := by decide +kernel
theorem dX5_isStep_0 : decode cX5_isStep 0 = .ok (.aload_n 0, 1) := by decide +kernel
theorem dX5_isStep_1 : decode cX5_isStep 1 = .ok (.getfield 9, 3) := by decide +kernel
theorem dX5_isStep_4 : decode cX5_isStep 4 = .ok (.iload_n 1, 1) := by decide +kernel
theorem dX5_isStep_5 : decode cX5_isStep 5 = .ok (.iaload, 1) := by decide +kernel
theorem dX5_isStep_6 : decode cX5_isStep 6 = .ok (.istore_n 3, 1) := by decide +kernel
theorem dX5_isStep_7 : decode cX5_isStep 7 = .ok (.aload_n 0, 1) := by decide +kernel
theorem dX5_isStep_8 : decode cX5_isStep 8 = .ok (.getfield 9, 3) := by decide +kernel
theorem dX5_isStep_11 : decode cX5_isStep 11 = .ok (.iload_n 1, 1) := by decide +kernel
theorem dX5_isStep_12 : decode cX5_isStep 12 = .ok (.iconst 1, 1) := by decide +kernel
theorem dX5_isStep_13 : decode cX5_isStep 13 = .ok (.iadd, 1) := by decide +kernel
theorem dX5_isStep_14 : decode cX5_isStep 14 = .ok (.iaload, 1) := by decide +kernel
theorem dX5_isStep_15 : decode cX5_isStep 15 = .ok (.istore 4, 2) := by decide +kernel
theorem dX5_isStep_17 : decode cX5_isStep 17 = .ok (.iload_n 2, 1) := by decide +kernel
theorem dX5_isStep_18 : decode cX5_isStep 18 = .ok (.iload_n 1, 1) := by decide +kernel
theorem dX5_isStep_19 : decode cX5_isStep 19 = .ok (.isub, 1) := by decide +kernel
theorem dX5_isStep_20 : decode cX5_isStep 20 = .ok (.iconst 2, 1) := by decide +kernel
theorem dX5_isStep_21 : decode cX5_isStep 21 = .ok (.if_icmp .ne 14, 3) := by decide +kernel
theorem dX5_isStep_24 : decode cX5_isStep 24 = .ok (.aload_n 0, 1) := by decide +kernel
theorem dX5_isStep_25 : decode cX5_isStep 25 = .ok (.getfield 21, 3) := by decide +kernel
theorem dX5_isStep_28 : decode cX5_isStep 28 = .ok (.iload_n 3, 1) := by decide +kernel
theorem dX5_isStep_29 : decode cX5_isStep 29 = .ok (.iload 4, 2) := by decide +kernel
theorem dX5_isStep_31 : decode cX5_isStep 31 = .ok (.invokevirtual 159, 3) := by decide +kernel
theorem dX5_isStep_34 : decode cX5_isStep 34 = .ok (.ireturn, 1) := by decide +kernel
theorem dX5_isStep_35 : decode cX5_isStep 35 = .ok (.aload_n 0, 1) := by decide +kernel
theorem dX5_isStep_36 : decode cX5_isStep 36 = .ok (.getfield 9, 3) := by decide +kernel
theorem dX5_isStep_39 : decode cX5_isStep 39 = .ok (.iload_n 1, 1) := by decide +kernel
theorem dX5_isStep_40 : decode cX5_isStep 40 = .ok (.iconst 2, 1) := by decide +kernel
theorem dX5_isStep_41 : decode cX5_isStep 41 = .ok (.iadd, 1) := by decide +kernel
theorem dX5_isStep_42 : decode cX5_isStep 42 = .ok (.iaload, 1) := by decide +kernel
theorem dX5_isStep_43 : decode cX5_isStep 43 = .ok (.istore 5, 2) := by decide +kernel
theorem dX5_isStep_45 : decode cX5_isStep 45 = .ok (.aload_n 0, 1) := by decide +kernel
theorem dX5_isStep_46 : decode cX5_isStep 46 = .ok (.getfield 21, 3) := by decide +kernel
theorem dX5_isStep_49 : decode cX5_isStep 49 = .ok (.iload_n 3, 1) := by decide +kernel
theorem dX5_isStep_50 : decode cX5_isStep 50 = .ok (.iload 5, 2) := by decide +kernel
theorem dX5_isStep_52 : decode cX5_isStep 52 = .ok (.invokevirtual 159, 3) := by decide +kernel
theorem dX5_isStep_55 : decode cX5_isStep 55 = .ok (.ifCond .eq 21, 3) := by decide +kernel
theorem dX5_isStep_58 : decode cX5_isStep 58 = .ok (.aload_n 0, 1) := by decide +kernel
theorem dX5_isStep_59 : decode cX5_isStep 59 = .ok (.getfield 21, 3) := by decide +kernel
theorem dX5_isStep_62 : decode cX5_isStep 62 = .ok (.iload 5, 2) := by decide +kernel
theorem dX5_isStep_64 : decode cX5_isStep 64 = .ok (.iload 4, 2) := by decide +kernel
theorem dX5_isStep_66 : decode cX5_isStep 66 = .ok (.invokevirtual 159, 3) := by decide +kernel
theorem dX5_isStep_69 : decode cX5_isStep 69 = .ok (.ifCond .eq 7, 3) := by decide +kernel
theorem dX5_isStep_72 : decode cX5_isStep 72 = .ok (.iconst 1, 1) := by decide +kernel
theorem dX5_isStep_73 : decode cX5_isStep 73 = .ok (.goto 4, 3) := by decide +kernel
theorem dX5_isStep_76 : decode cX5_isStep 76 = .ok (.iconst 0, 1) := by decide +kernel
theorem dX5_isStep_77 : decode cX5_isStep 77 = .ok (.ireturn, 1) := by decide +kernel
theorem dX5_whyNoChain_0 : decode cX5_whyNoChain 0 = .ok (.aload_n 0, 1) := by decide +kernel
theorem dX5_whyNoChain_1 : decode cX5_whyNoChain 1 = .ok (.iload_n 1, 1) := by decide +kernel
theorem dX5_whyNoChain_2 : decode cX5_whyNoChain 2 = .ok (.iload_n 2, 1) := by decide +kernel
theorem dX5_whyNoChain_3 : decode cX5_whyNoChain 3 = .ok (.invokevirtual 162, 3) := by decide +kernel
theorem dX5_whyNoChain_6 : decode cX5_whyNoChain 6 = .ok (.ifCond .le 5, 3) := by decide +kernel
theorem dX5_whyNoChain_9 : decode cX5_whyNoChain 9 = .ok (.iconst 3, 1) := by decide +kernel
theorem dX5_whyNoChain_10 : decode cX5_whyNoChain 10 = .ok (.ireturn, 1) := by decide +kernel
theorem dX5_whyNoChain_11 : decode cX5_whyNoChain 11 = .ok (.iconst 0, 1) := by decide +kernel
theorem dX5_whyNoChain_12 : decode cX5_whyNoChain 12 = .ok (.istore 4, 2) := by decide +kernel
theorem dX5_whyNoChain_14 : decode cX5_whyNoChain 14 = .ok (.iload 4, 2) := by decide +kernel
theorem dX5_whyNoChain_16 : decode cX5_whyNoChain 16 = .ok (.aload_n 0, 1) := by decide +kernel
theorem dX5_whyNoChain_17 : decode cX5_whyNoChain 17 = .ok (.getfield 21, 3) := by decide +kernel
theorem dX5_whyNoChain_20 : decode cX5_whyNoChain 20 = .ok (.getfield 165, 3) := by decide +kernel
theorem dX5_whyNoChain_23 : decode cX5_whyNoChain 23 = .ok (.if_icmp .ge 28, 3) := by decide +kernel
theorem dX5_whyNoChain_26 : decode cX5_whyNoChain 26 = .ok (.iload_n 3, 1) := by decide +kernel
theorem dX5_whyNoChain_27 : decode cX5_whyNoChain 27 = .ok (.aload_n 0, 1) := by decide +kernel
theorem dX5_whyNoChain_28 : decode cX5_whyNoChain 28 = .ok (.getfield 21, 3) := by decide +kernel
theorem dX5_whyNoChain_31 : decode cX5_whyNoChain 31 = .ok (.getfield 168, 3) := by decide +kernel
theorem dX5_whyNoChain_34 : decode cX5_whyNoChain 34 = .ok (.iload 4, 2) := by decide +kernel
theorem dX5_whyNoChain_36 : decode cX5_whyNoChain 36 = .ok (.iaload, 1) := by decide +kernel
theorem dX5_whyNoChain_37 : decode cX5_whyNoChain 37 = .ok (.iconst (-1), 1) := by decide +kernel
theorem dX5_whyNoChain_38 : decode cX5_whyNoChain 38 = .ok (.ixor, 1) := by decide +kernel
theorem dX5_whyNoChain_39 : decode cX5_whyNoChain 39 = .ok (.iand, 1) := by decide +kernel
theorem dX5_whyNoChain_40 : decode cX5_whyNoChain 40 = .ok (.ifCond .ne 5, 3) := by decide +kernel
theorem dX5_whyNoChain_43 : decode cX5_whyNoChain 43 = .ok (.iconst 4, 1) := by decide +kernel
theorem dX5_whyNoChain_44 : decode cX5_whyNoChain 44 = .ok (.ireturn, 1) := by decide +kernel
theorem dX5_whyNoChain_45 : decode cX5_whyNoChain 45 = .ok (.iinc 4 1, 3) := by decide +kernel
theorem dX5_whyNoChain_48 : decode cX5_whyNoChain 48 = .ok (.goto (-34), 3) := by decide +kernel
theorem dX5_whyNoChain_51 : decode cX5_whyNoChain 51 = .ok (.iconst 0, 1) := by decide +kernel
theorem dX5_whyNoChain_52 : decode cX5_whyNoChain 52 = .ok (.ireturn, 1) := by decide +kernel
theorem dX5_whyNoBestOrder_0 : decode cX5_whyNoBestOrder 0 = .ok (.iload_n 3, 1) := by decide +kernel
theorem dX5_whyNoBestOrder_1 : decode cX5_whyNoBestOrder 1 = .ok (.aload_n 0, 1) := by decide +kernel
theorem dX5_whyNoBestOrder_2 : decode cX5_whyNoBestOrder 2 = .ok (.getfield 21, 3) := by decide +kernel
theorem dX5_whyNoBestOrder_5 : decode cX5_whyNoBestOrder 5 = .ok (.invokevirtual 134, 3) := by decide +kernel
theorem dX5_whyNoBestOrder_8 : decode cX5_whyNoBestOrder 8 = .ok (.if_icmp .eq 5, 3) := by decide +kernel
theorem dX5_whyNoBestOrder_11 : decode cX5_whyNoBestOrder 11 = .ok (.iconst 4, 1) := by decide +kernel
theorem dX5_whyNoBestOrder_12 : decode cX5_whyNoBestOrder 12 = .ok (.ireturn, 1) := by decide +kernel
theorem dX5_whyNoBestOrder_13 : decode cX5_whyNoBestOrder 13 = .ok (.aload_n 0, 1) := by decide +kernel
theorem dX5_whyNoBestOrder_14 : decode cX5_whyNoBestOrder 14 = .ok (.getfield 33, 3) := by decide +kernel
theorem dX5_whyNoBestOrder_17 : decode cX5_whyNoBestOrder 17 = .ok (.iload_n 3, 1) := by decide +kernel
theorem dX5_whyNoBestOrder_18 : decode cX5_whyNoBestOrder 18 = .ok (.invokevirtual 171, 3) := by decide +kernel
theorem dX5_whyNoBestOrder_21 : decode cX5_whyNoBestOrder 21 = .ok (.aload_n 0, 1) := by decide +kernel
theorem dX5_whyNoBestOrder_22 : decode cX5_whyNoBestOrder 22 = .ok (.getfield 9, 3) := by decide +kernel
theorem dX5_whyNoBestOrder_25 : decode cX5_whyNoBestOrder 25 = .ok (.iload_n 1, 1) := by decide +kernel
theorem dX5_whyNoBestOrder_26 : decode cX5_whyNoBestOrder 26 = .ok (.iaload, 1) := by decide +kernel
theorem dX5_whyNoBestOrder_27 : decode cX5_whyNoBestOrder 27 = .ok (.bipush 8, 2) := by decide +kernel
theorem dX5_whyNoBestOrder_29 : decode cX5_whyNoBestOrder 29 = .ok (.isub, 1) := by decide +kernel
theorem dX5_whyNoBestOrder_30 : decode cX5_whyNoBestOrder 30 = .ok (.istore 4, 2) := by decide +kernel
theorem dX5_whyNoBestOrder_32 : decode cX5_whyNoBestOrder 32 = .ok (.aload_n 0, 1) := by decide +kernel
theorem dX5_whyNoBestOrder_33 : decode cX5_whyNoBestOrder 33 = .ok (.iload_n 1, 1) := by decide +kernel
theorem dX5_whyNoBestOrder_34 : decode cX5_whyNoBestOrder 34 = .ok (.iconst 1, 1) := by decide +kernel
theorem dX5_whyNoBestOrder_35 : decode cX5_whyNoBestOrder 35 = .ok (.iadd, 1) := by decide +kernel
theorem dX5_whyNoBestOrder_36 : decode cX5_whyNoBestOrder 36 = .ok (.iload_n 2, 1) := by decide +kernel
theorem dX5_whyNoBestOrder_37 : decode cX5_whyNoBestOrder 37 = .ok (.invokevirtual 162, 3) := by decide +kernel
theorem dX5_whyNoBestOrder_40 : decode cX5_whyNoBestOrder 40 = .ok (.iload 4, 2) := by decide +kernel
theorem dX5_whyNoBestOrder_42 : decode cX5_whyNoBestOrder 42 = .ok (.if_icmp .ne 21, 3) := by decide +kernel
theorem dX5_whyNoBestOrder_45 : decode cX5_whyNoBestOrder 45 = .ok (.aload_n 0, 1) := by decide +kernel
theorem dX5_whyNoBestOrder_46 : decode cX5_whyNoBestOrder 46 = .ok (.getfield 33, 3) := by decide +kernel
theorem dX5_whyNoBestOrder_49 : decode cX5_whyNoBestOrder 49 = .ok (.getfield 176, 3) := by decide +kernel
theorem dX5_whyNoBestOrder_52 : decode cX5_whyNoBestOrder 52 = .ok (.iload_n 3, 1) := by decide +kernel
theorem dX5_whyNoBestOrder_53 : decode cX5_whyNoBestOrder 53 = .ok (.iaload, 1) := by decide +kernel
theorem dX5_whyNoBestOrder_54 : decode cX5_whyNoBestOrder 54 = .ok (.iload 4, 2) := by decide +kernel
theorem dX5_whyNoBestOrder_56 : decode cX5_whyNoBestOrder 56 = .ok (.if_icmp .ne 7, 3) := by decide +kernel
theorem dX5_whyNoBestOrder_59 : decode cX5_whyNoBestOrder 59 = .ok (.iconst 1, 1) := by decide +kernel
theorem dX5_whyNoBestOrder_60 : decode cX5_whyNoBestOrder 60 = .ok (.goto 4, 3) := by decide +kernel
theorem dX5_whyNoBestOrder_63 : decode cX5_whyNoBestOrder 63 = .ok (.iconst 0, 1) := by decide +kernel
theorem dX5_whyNoBestOrder_64 : decode cX5_whyNoBestOrder 64 = .ok (.istore 5, 2) := by decide +kernel
theorem dX5_whyNoBestOrder_66 : decode cX5_whyNoBestOrder 66 = .ok (.iload 5, 2) := by decide +kernel
theorem dX5_whyNoBestOrder_68 : decode cX5_whyNoBestOrder 68 = .ok (.ifCond .eq 7, 3) := by decide +kernel
theorem dX5_whyNoBestOrder_71 : decode cX5_whyNoBestOrder 71 = .ok (.iconst 0, 1) := by decide +kernel
theorem dX5_whyNoBestOrder_72 : decode cX5_whyNoBestOrder 72 = .ok (.goto 4, 3) := by decide +kernel
theorem dX5_whyNoBestOrder_75 : decode cX5_whyNoBestOrder 75 = .ok (.iconst 5, 1) := by decide +kernel
theorem dX5_whyNoBestOrder_76 : decode cX5_whyNoBestOrder 76 = .ok (.ireturn, 1) := by decide +kernel
theorem dX5_countTurned_0 : decode cX5_countTurned 0 = .ok (.iconst 0, 1) := by decide +kernel
theorem dX5_countTurned_1 : decode cX5_countTurned 1 = .ok (.istore_n 3, 1) := by decide +kernel
theorem dX5_countTurned_2 : decode cX5_countTurned 2 = .ok (.iload_n 1, 1) := by decide +kernel
theorem dX5_countTurned_3 : decode cX5_countTurned 3 = .ok (.istore 4, 2) := by decide +kernel
theorem dX5_countTurned_5 : decode cX5_countTurned 5 = .ok (.iload 4, 2) := by decide +kernel
theorem dX5_countTurned_7 : decode cX5_countTurned 7 = .ok (.iload_n 2, 1) := by decide +kernel
theorem dX5_countTurned_8 : decode cX5_countTurned 8 = .ok (.if_icmp .ge 54, 3) := by decide +kernel
theorem dX5_countTurned_11 : decode cX5_countTurned 11 = .ok (.iload 4, 2) := by decide +kernel
theorem dX5_countTurned_13 : decode cX5_countTurned 13 = .ok (.iconst 1, 1) := by decide +kernel
theorem dX5_countTurned_14 : decode cX5_countTurned 14 = .ok (.iadd, 1) := by decide +kernel
theorem dX5_countTurned_15 : decode cX5_countTurned 15 = .ok (.istore 5, 2) := by decide +kernel
theorem dX5_countTurned_17 : decode cX5_countTurned 17 = .ok (.iload 5, 2) := by decide +kernel
theorem dX5_countTurned_19 : decode cX5_countTurned 19 = .ok (.iload_n 2, 1) := by decide +kernel
theorem dX5_countTurned_20 : decode cX5_countTurned 20 = .ok (.if_icmp .ge 36, 3) := by decide +kernel
theorem dX5_countTurned_23 : decode cX5_countTurned 23 = .ok (.aload_n 0, 1) := by decide +kernel
theorem dX5_countTurned_24 : decode cX5_countTurned 24 = .ok (.getfield 21, 3) := by decide +kernel
theorem dX5_countTurned_27 : decode cX5_countTurned 27 = .ok (.aload_n 0, 1) := by decide +kernel
theorem dX5_countTurned_28 : decode cX5_countTurned 28 = .ok (.getfield 9, 3) := by decide +kernel
theorem dX5_countTurned_31 : decode cX5_countTurned 31 = .ok (.iload 5, 2) := by decide +kernel
theorem dX5_countTurned_33 : decode cX5_countTurned 33 = .ok (.iaload, 1) := by decide +kernel
theorem dX5_countTurned_34 : decode cX5_countTurned 34 = .ok (.aload_n 0, 1) := by decide +kernel
theorem dX5_countTurned_35 : decode cX5_countTurned 35 = .ok (.getfield 9, 3) := by decide +kernel
theorem dX5_countTurned_38 : decode cX5_countTurned 38 = .ok (.iload 4, 2) := by decide +kernel
theorem dX5_countTurned_40 : decode cX5_countTurned 40 = .ok (.iaload, 1) := by decide +kernel
theorem dX5_countTurned_41 : decode cX5_countTurned 41 = .ok (.invokevirtual 159, 3) := by decide +kernel
theorem dX5_countTurned_44 : decode cX5_countTurned 44 = .ok (.ifCond .eq 6, 3) := by decide +kernel
theorem dX5_countTurned_47 : decode cX5_countTurned 47 = .ok (.iinc 3 1, 3) := by decide +kernel
theorem dX5_countTurned_50 : decode cX5_countTurned 50 = .ok (.iinc 5 1, 3) := by decide +kernel
theorem dX5_countTurned_53 : decode cX5_countTurned 53 = .ok (.goto (-36), 3) := by decide +kernel
theorem dX5_countTurned_56 : decode cX5_countTurned 56 = .ok (.iinc 4 1, 3) := by decide +kernel
theorem dX5_countTurned_59 : decode cX5_countTurned 59 = .ok (.goto (-54), 3) := by decide +kernel
theorem dX5_countTurned_62 : decode cX5_countTurned 62 = .ok (.iload_n 3, 1) := by decide +kernel
theorem dX5_countTurned_63 : decode cX5_countTurned 63 = .ok (.ireturn, 1) := by decide +kernel
theorem dX5_whyNoWeights_0 : decode cX5_whyNoWeights 0 = .ok (.iconst 0, 1) := by decide +kernel
theorem dX5_whyNoWeights_1 : decode cX5_whyNoWeights 1 = .ok (.istore_n 3, 1) := by decide +kernel
theorem dX5_whyNoWeights_2 : decode cX5_whyNoWeights 2 = .ok (.iload_n 3, 1) := by decide +kernel
theorem dX5_whyNoWeights_3 : decode cX5_whyNoWeights 3 = .ok (.bipush 8, 2) := by decide +kernel
theorem dX5_whyNoWeights_5 : decode cX5_whyNoWeights 5 = .ok (.if_icmp .ge 16, 3) := by decide +kernel
theorem dX5_whyNoWeights_8 : decode cX5_whyNoWeights 8 = .ok (.aload_n 0, 1) := by decide +kernel
theorem dX5_whyNoWeights_9 : decode cX5_whyNoWeights 9 = .ok (.getfield 18, 3) := by decide +kernel
theorem dX5_whyNoWeights_12 : decode cX5_whyNoWeights 12 = .ok (.iload_n 3, 1) := by decide +kernel
theorem dX5_whyNoWeights_13 : decode cX5_whyNoWeights 13 = .ok (.iconst 0, 1) := by decide +kernel
theorem dX5_whyNoWeights_14 : decode cX5_whyNoWeights 14 = .ok (.iastore, 1) := by decide +kernel
theorem dX5_whyNoWeights_15 : decode cX5_whyNoWeights 15 = .ok (.iinc 3 1, 3) := by decide +kernel
theorem dX5_whyNoWeights_18 : decode cX5_whyNoWeights 18 = .ok (.goto (-16), 3) := by decide +kernel
theorem dX5_whyNoWeights_21 : decode cX5_whyNoWeights 21 = .ok (.iconst 0, 1) := by decide +kernel
theorem dX5_whyNoWeights_22 : decode cX5_whyNoWeights 22 = .ok (.istore_n 3, 1) := by decide +kernel
theorem dX5_whyNoWeights_23 : decode cX5_whyNoWeights 23 = .ok (.iload_n 1, 1) := by decide +kernel
theorem dX5_whyNoWeights_24 : decode cX5_whyNoWeights 24 = .ok (.istore 4, 2) := by decide +kernel
theorem dX5_whyNoWeights_26 : decode cX5_whyNoWeights 26 = .ok (.iload 4, 2) := by decide +kernel
theorem dX5_whyNoWeights_28 : decode cX5_whyNoWeights 28 = .ok (.iconst 1, 1) := by decide +kernel
theorem dX5_whyNoWeights_29 : decode cX5_whyNoWeights 29 = .ok (.iadd, 1) := by decide +kernel
theorem dX5_whyNoWeights_30 : decode cX5_whyNoWeights 30 = .ok (.iload_n 2, 1) := by decide +kernel
theorem dX5_whyNoWeights_31 : decode cX5_whyNoWeights 31 = .ok (.if_icmp .ge 48, 3) := by decide +kernel
theorem dX5_whyNoWeights_34 : decode cX5_whyNoWeights 34 = .ok (.aload_n 0, 1) := by decide +kernel
theorem dX5_whyNoWeights_35 : decode cX5_whyNoWeights 35 = .ok (.getfield 18, 3) := by decide +kernel
theorem dX5_whyNoWeights_38 : decode cX5_whyNoWeights 38 = .ok (.aload_n 0, 1) := by decide +kernel
theorem dX5_whyNoWeights_39 : decode cX5_whyNoWeights 39 = .ok (.getfield 9, 3) := by decide +kernel
theorem dX5_whyNoWeights_42 : decode cX5_whyNoWeights 42 = .ok (.iload 4, 2) := by decide +kernel
theorem dX5_whyNoWeights_44 : decode cX5_whyNoWeights 44 = .ok (.iaload, 1) := by decide +kernel
theorem dX5_whyNoWeights_45 : decode cX5_whyNoWeights 45 = .ok (.aload_n 0, 1) := by decide +kernel
theorem dX5_whyNoWeights_46 : decode cX5_whyNoWeights 46 = .ok (.getfield 9, 3) := by decide +kernel
theorem dX5_whyNoWeights_49 : decode cX5_whyNoWeights 49 = .ok (.iload 4, 2) := by decide +kernel
theorem dX5_whyNoWeights_51 : decode cX5_whyNoWeights 51 = .ok (.iconst 1, 1) := by decide +kernel
theorem dX5_whyNoWeights_52 : decode cX5_whyNoWeights 52 = .ok (.iadd, 1) := by decide +kernel
theorem dX5_whyNoWeights_53 : decode cX5_whyNoWeights 53 = .ok (.iaload, 1) := by decide +kernel
theorem dX5_whyNoWeights_54 : decode cX5_whyNoWeights 54 = .ok (.bipush 8, 2) := by decide +kernel
theorem dX5_whyNoWeights_56 : decode cX5_whyNoWeights 56 = .ok (.isub, 1) := by decide +kernel
theorem dX5_whyNoWeights_57 : decode cX5_whyNoWeights 57 = .ok (.iastore, 1) := by decide +kernel
theorem dX5_whyNoWeights_58 : decode cX5_whyNoWeights 58 = .ok (.iload_n 3, 1) := by decide +kernel
theorem dX5_whyNoWeights_59 : decode cX5_whyNoWeights 59 = .ok (.aload_n 0, 1) := by decide +kernel
theorem dX5_whyNoWeights_60 : decode cX5_whyNoWeights 60 = .ok (.getfield 18, 3) := by decide +kernel
theorem dX5_whyNoWeights_63 : decode cX5_whyNoWeights 63 = .ok (.aload_n 0, 1) := by decide +kernel
theorem dX5_whyNoWeights_64 : decode cX5_whyNoWeights 64 = .ok (.getfield 9, 3) := by decide +kernel
theorem dX5_whyNoWeights_67 : decode cX5_whyNoWeights 67 = .ok (.iload 4, 2) := by decide +kernel
theorem dX5_whyNoWeights_69 : decode cX5_whyNoWeights 69 = .ok (.iaload, 1) := by decide +kernel
theorem dX5_whyNoWeights_70 : decode cX5_whyNoWeights 70 = .ok (.iaload, 1) := by decide +kernel
theorem dX5_whyNoWeights_71 : decode cX5_whyNoWeights 71 = .ok (.iadd, 1) := by decide +kernel
theorem dX5_whyNoWeights_72 : decode cX5_whyNoWeights 72 = .ok (.istore_n 3, 1) := by decide +kernel
theorem dX5_whyNoWeights_73 : decode cX5_whyNoWeights 73 = .ok (.iinc 4 2, 3) := by decide +kernel
theorem dX5_whyNoWeights_76 : decode cX5_whyNoWeights 76 = .ok (.goto (-50), 3) := by decide +kernel
theorem dX5_whyNoWeights_79 : decode cX5_whyNoWeights 79 = .ok (.iload_n 3, 1) := by decide +kernel
theorem dX5_whyNoWeights_80 : decode cX5_whyNoWeights 80 = .ok (.ifCond .ne 5, 3) := by decide +kernel
theorem dX5_whyNoWeights_83 : decode cX5_whyNoWeights 83 = .ok (.iconst 4, 1) := by decide +kernel
theorem dX5_whyNoWeights_84 : decode cX5_whyNoWeights 84 = .ok (.ireturn, 1) := by decide +kernel
theorem dX5_whyNoWeights_85 : decode cX5_whyNoWeights 85 = .ok (.aload_n 0, 1) := by decide +kernel
theorem dX5_whyNoWeights_86 : decode cX5_whyNoWeights 86 = .ok (.getfield 37, 3) := by decide +kernel
theorem dX5_whyNoWeights_89 : decode cX5_whyNoWeights 89 = .ok (.aload_n 0, 1) := by decide +kernel
theorem dX5_whyNoWeights_90 : decode cX5_whyNoWeights 90 = .ok (.getfield 21, 3) := by decide +kernel
theorem dX5_whyNoWeights_93 : decode cX5_whyNoWeights 93 = .ok (.invokevirtual 134, 3) := by decide +kernel
theorem dX5_whyNoWeights_96 : decode cX5_whyNoWeights 96 = .ok (.aload_n 0, 1) := by decide +kernel
theorem dX5_whyNoWeights_97 : decode cX5_whyNoWeights 97 = .ok (.getfield 18, 3) := by decide +kernel
theorem dX5_whyNoWeights_100 : decode cX5_whyNoWeights 100 = .ok (.invokevirtual 179, 3) := by decide +kernel
theorem dX5_whyNoWeights_103 : decode cX5_whyNoWeights 103 = .ok (.ifCond .eq 7, 3) := by decide +kernel
theorem dX5_whyNoWeights_106 : decode cX5_whyNoWeights 106 = .ok (.iconst 0, 1) := by decide +kernel
theorem dX5_whyNoWeights_107 : decode cX5_whyNoWeights 107 = .ok (.goto 4, 3) := by decide +kernel
theorem dX5_whyNoWeights_110 : decode cX5_whyNoWeights 110 = .ok (.iconst 5, 1) := by decide +kernel
theorem dX5_whyNoWeights_111 : decode cX5_whyNoWeights 111 = .ok (.ireturn, 1) := by decide +kernel
theorem dX5_isSaidAhead_0 : decode cX5_isSaidAhead 0 = .ok (.iconst 0, 1) := by decide +kernel
theorem dX5_isSaidAhead_1 : decode cX5_isSaidAhead 1 = .ok (.istore_n 2, 1) := by decide +kernel
theorem dX5_isSaidAhead_2 : decode cX5_isSaidAhead 2 = .ok (.iload_n 2, 1) := by decide +kernel
theorem dX5_isSaidAhead_3 : decode cX5_isSaidAhead 3 = .ok (.iload_n 1, 1) := by decide +kernel
theorem dX5_isSaidAhead_4 : decode cX5_isSaidAhead 4 = .ok (.if_icmp .ge 20, 3) := by decide +kernel
theorem dX5_isSaidAhead_7 : decode cX5_isSaidAhead 7 = .ok (.aload_n 0, 1) := by decide +kernel
theorem dX5_isSaidAhead_8 : decode cX5_isSaidAhead 8 = .ok (.iload_n 2, 1) := by decide +kernel
theorem dX5_isSaidAhead_9 : decode cX5_isSaidAhead 9 = .ok (.iload_n 1, 1) := by decide +kernel
theorem dX5_isSaidAhead_10 : decode cX5_isSaidAhead 10 = .ok (.invokevirtual 185, 3) := by decide +kernel
theorem dX5_isSaidAhead_13 : decode cX5_isSaidAhead 13 = .ok (.ifCond .eq 5, 3) := by decide +kernel
theorem dX5_isSaidAhead_16 : decode cX5_isSaidAhead 16 = .ok (.iconst 1, 1) := by decide +kernel
theorem dX5_isSaidAhead_17 : decode cX5_isSaidAhead 17 = .ok (.ireturn, 1) := by decide +kernel
theorem dX5_isSaidAhead_18 : decode cX5_isSaidAhead 18 = .ok (.iinc 2 1, 3) := by decide +kernel
theorem dX5_isSaidAhead_21 : decode cX5_isSaidAhead 21 = .ok (.goto (-19), 3) := by decide +kernel
theorem dX5_isSaidAhead_24 : decode cX5_isSaidAhead 24 = .ok (.iconst 0, 1) := by decide +kernel
theorem dX5_isSaidAhead_25 : decode cX5_isSaidAhead 25 = .ok (.ireturn, 1) := by decide +kernel
theorem dX5_saysTheSame_0 : decode cX5_saysTheSame 0 = .ok (.aload_n 0, 1) := by decide +kernel
theorem dX5_saysTheSame_1 : decode cX5_saysTheSame 1 = .ok (.getfield 15, 3) := by decide +kernel
theorem dX5_saysTheSame_4 : decode cX5_saysTheSame 4 = .ok (.iload_n 1, 1) := by decide +kernel
theorem dX5_saysTheSame_5 : decode cX5_saysTheSame 5 = .ok (.iconst 1, 1) := by decide +kernel
theorem dX5_saysTheSame_6 : decode cX5_saysTheSame 6 = .ok (.iadd, 1) := by decide +kernel
theorem dX5_saysTheSame_7 : decode cX5_saysTheSame 7 = .ok (.iaload, 1) := by decide +kernel
theorem dX5_saysTheSame_8 : decode cX5_saysTheSame 8 = .ok (.aload_n 0, 1) := by decide +kernel
theorem dX5_saysTheSame_9 : decode cX5_saysTheSame 9 = .ok (.getfield 15, 3) := by decide +kernel
theorem dX5_saysTheSame_12 : decode cX5_saysTheSame 12 = .ok (.iload_n 1, 1) := by decide +kernel
theorem dX5_saysTheSame_13 : decode cX5_saysTheSame 13 = .ok (.iaload, 1) := by decide +kernel
theorem dX5_saysTheSame_14 : decode cX5_saysTheSame 14 = .ok (.isub, 1) := by decide +kernel
theorem dX5_saysTheSame_15 : decode cX5_saysTheSame 15 = .ok (.istore_n 3, 1) := by decide +kernel
theorem dX5_saysTheSame_16 : decode cX5_saysTheSame 16 = .ok (.iload_n 3, 1) := by decide +kernel
theorem dX5_saysTheSame_17 : decode cX5_saysTheSame 17 = .ok (.aload_n 0, 1) := by decide +kernel
theorem dX5_saysTheSame_18 : decode cX5_saysTheSame 18 = .ok (.getfield 15, 3) := by decide +kernel
theorem dX5_saysTheSame_21 : decode cX5_saysTheSame 21 = .ok (.iload_n 2, 1) := by decide +kernel
theorem dX5_saysTheSame_22 : decode cX5_saysTheSame 22 = .ok (.iconst 1, 1) := by decide +kernel
theorem dX5_saysTheSame_23 : decode cX5_saysTheSame 23 = .ok (.iadd, 1) := by decide +kernel
theorem dX5_saysTheSame_24 : decode cX5_saysTheSame 24 = .ok (.iaload, 1) := by decide +kernel
theorem dX5_saysTheSame_25 : decode cX5_saysTheSame 25 = .ok (.aload_n 0, 1) := by decide +kernel
theorem dX5_saysTheSame_26 : decode cX5_saysTheSame 26 = .ok (.getfield 15, 3) := by decide +kernel
theorem dX5_saysTheSame_29 : decode cX5_saysTheSame 29 = .ok (.iload_n 2, 1) := by decide +kernel
theorem dX5_saysTheSame_30 : decode cX5_saysTheSame 30 = .ok (.iaload, 1) := by decide +kernel
theorem dX5_saysTheSame_31 : decode cX5_saysTheSame 31 = .ok (.isub, 1) := by decide +kernel
theorem dX5_saysTheSame_32 : decode cX5_saysTheSame 32 = .ok (.if_icmp .eq 5, 3) := by decide +kernel
theorem dX5_saysTheSame_35 : decode cX5_saysTheSame 35 = .ok (.iconst 0, 1) := by decide +kernel
theorem dX5_saysTheSame_36 : decode cX5_saysTheSame 36 = .ok (.ireturn, 1) := by decide +kernel
theorem dX5_saysTheSame_37 : decode cX5_saysTheSame 37 = .ok (.iconst 0, 1) := by decide +kernel
theorem dX5_saysTheSame_38 : decode cX5_saysTheSame 38 = .ok (.istore 4, 2) := by decide +kernel
theorem dX5_saysTheSame_40 : decode cX5_saysTheSame 40 = .ok (.iload 4, 2) := by decide +kernel
theorem dX5_saysTheSame_42 : decode cX5_saysTheSame 42 = .ok (.iload_n 3, 1) := by decide +kernel
theorem dX5_saysTheSame_43 : decode cX5_saysTheSame 43 = .ok (.if_icmp .ge 42, 3) := by decide +kernel
theorem dX5_saysTheSame_46 : decode cX5_saysTheSame 46 = .ok (.aload_n 0, 1) := by decide +kernel
theorem dX5_saysTheSame_47 : decode cX5_saysTheSame 47 = .ok (.getfield 9, 3) := by decide +kernel
theorem dX5_saysTheSame_50 : decode cX5_saysTheSame 50 = .ok (.aload_n 0, 1) := by decide +kernel
theorem dX5_saysTheSame_51 : decode cX5_saysTheSame 51 = .ok (.getfield 15, 3) := by decide +kernel
theorem dX5_saysTheSame_54 : decode cX5_saysTheSame 54 = .ok (.iload_n 1, 1) := by decide +kernel
theorem dX5_saysTheSame_55 : decode cX5_saysTheSame 55 = .ok (.iaload, 1) := by decide +kernel
theorem dX5_saysTheSame_56 : decode cX5_saysTheSame 56 = .ok (.iload 4, 2) := by decide +kernel
theorem dX5_saysTheSame_58 : decode cX5_saysTheSame 58 = .ok (.iadd, 1) := by decide +kernel
theorem dX5_saysTheSame_59 : decode cX5_saysTheSame 59 = .ok (.iaload, 1) := by decide +kernel
theorem dX5_saysTheSame_60 : decode cX5_saysTheSame 60 = .ok (.aload_n 0, 1) := by decide +kernel
theorem dX5_saysTheSame_61 : decode cX5_saysTheSame 61 = .ok (.getfield 9, 3) := by decide +kernel
theorem dX5_saysTheSame_64 : decode cX5_saysTheSame 64 = .ok (.aload_n 0, 1) := by decide +kernel
theorem dX5_saysTheSame_65 : decode cX5_saysTheSame 65 = .ok (.getfield 15, 3) := by decide +kernel
theorem dX5_saysTheSame_68 : decode cX5_saysTheSame 68 = .ok (.iload_n 2, 1) := by decide +kernel
theorem dX5_saysTheSame_69 : decode cX5_saysTheSame 69 = .ok (.iaload, 1) := by decide +kernel
theorem dX5_saysTheSame_70 : decode cX5_saysTheSame 70 = .ok (.iload 4, 2) := by decide +kernel
theorem dX5_saysTheSame_72 : decode cX5_saysTheSame 72 = .ok (.iadd, 1) := by decide +kernel
theorem dX5_saysTheSame_73 : decode cX5_saysTheSame 73 = .ok (.iaload, 1) := by decide +kernel
theorem dX5_saysTheSame_74 : decode cX5_saysTheSame 74 = .ok (.if_icmp .eq 5, 3) := by decide +kernel
theorem dX5_saysTheSame_77 : decode cX5_saysTheSame 77 = .ok (.iconst 0, 1) := by decide +kernel
theorem dX5_saysTheSame_78 : decode cX5_saysTheSame 78 = .ok (.ireturn, 1) := by decide +kernel
theorem dX5_saysTheSame_79 : decode cX5_saysTheSame 79 = .ok (.iinc 4 1, 3) := by decide +kernel
theorem dX5_saysTheSame_82 : decode cX5_saysTheSame 82 = .ok (.goto (-42), 3) := by decide +kernel
theorem dX5_saysTheSame_85 : decode cX5_saysTheSame 85 = .ok (.iconst 1, 1) := by decide +kernel
theorem dX5_saysTheSame_86 : decode cX5_saysTheSame 86 = .ok (.ireturn, 1) := by decide +kernel
theorem dX6_init_0 : decode cX6_init 0 = .ok (.aload_n 0, 1) := by decide +kernel
theorem dX6_init_1 : decode cX6_init 1 = .ok (.invokespecial 3, 3) := by decide +kernel
theorem dX6_init_4 : decode cX6_init 4 = .ok (.aload_n 0, 1) := by decide +kernel
theorem dX6_init_5 : decode cX6_init 5 = .ok (.bipush 8, 2) := by decide +kernel
theorem dX6_init_7 : decode cX6_init 7 = .ok (.newarray .int, 2) := by decide +kernel
theorem dX6_init_9 : decode cX6_init 9 = .ok (.putfield 9, 3) := by decide +kernel
theorem dX6_init_12 : decode cX6_init 12 = .ok (.aload_n 0, 1) := by decide +kernel
theorem dX6_init_13 : decode cX6_init 13 = .ok (.bipush 64, 2) := by decide +kernel
theorem dX6_init_15 : decode cX6_init 15 = .ok (.newarray .int, 2) := by decide +kernel
theorem dX6_init_17 : decode cX6_init 17 = .ok (.putfield 15, 3) := by decide +kernel
theorem dX6_init_20 : decode cX6_init 20 = .ok (.aload_n 0, 1) := by decide +kernel
theorem dX6_init_21 : decode cX6_init 21 = .ok (.aload_n 1, 1) := by decide +kernel
theorem dX6_init_22 : decode cX6_init 22 = .ok (.putfield 18, 3) := by decide +kernel
theorem dX6_init_25 : decode cX6_init 25 = .ok (.aload_n 0, 1) := by decide +kernel
theorem dX6_init_26 : decode cX6_init 26 = .ok (.aload_n 2, 1) := by decide +kernel
theorem dX6_init_27 : decode cX6_init 27 = .ok (.putfield 22, 3) := by decide +kernel
theorem dX6_init_30 : decode cX6_init 30 = .ok (.aload_n 0, 1) := by decide +kernel
theorem dX6_init_31 : decode cX6_init 31 = .ok (.aload_n 3, 1) := by decide +kernel
theorem dX6_init_32 : decode cX6_init 32 = .ok (.putfield 26, 3) := by decide +kernel
theorem dX6_init_35 : decode cX6_init 35 = .ok (.aload_n 0, 1) := by decide +kernel
theorem dX6_init_36 : decode cX6_init 36 = .ok (.aload 4, 2) := by decide +kernel
theorem dX6_init_38 : decode cX6_init 38 = .ok (.putfield 30, 3) := by decide +kernel
theorem dX6_init_41 : decode cX6_init 41 = .ok (.return_, 1) := by decide +kernel
theorem dX6_ofKind_0 : decode cX6_ofKind 0 = .ok (.iload_n 2, 1) := by decide +kernel
theorem dX6_ofKind_1 : decode cX6_ofKind 1 = .ok (.ifCond .ne 5, 3) := by decide +kernel
theorem dX6_ofKind_4 : decode cX6_ofKind 4 = .ok (.iconst 0, 1) := by decide +kernel
theorem dX6_ofKind_5 : decode cX6_ofKind 5 = .ok (.ireturn, 1) := by decide +kernel
theorem dX6_ofKind_6 : decode cX6_ofKind 6 = .ok (.iload_n 1, 1) := by decide +kernel
theorem dX6_ofKind_7 : decode cX6_ofKind 7 = .ok (.tableswitch 123 0 9 #[53, 59, 65, 71, 77, 83, 92, 98, 107, 114], 53) := by decide +kernel
theorem dX6_ofKind_60 : decode cX6_ofKind 60 = .ok (.aload_n 0, 1) := by decide +kernel
theorem dX6_ofKind_61 : decode cX6_ofKind 61 = .ok (.iload_n 2, 1) := by decide +kernel
theorem dX6_ofKind_62 : decode cX6_ofKind 62 = .ok (.invokevirtual 34, 3) := by decide +kernel
theorem dX6_ofKind_65 : decode cX6_ofKind 65 = .ok (.ireturn, 1) := by decide +kernel
theorem dX6_ofKind_66 : decode cX6_ofKind 66 = .ok (.aload_n 0, 1) := by decide +kernel
theorem dX6_ofKind_67 : decode cX6_ofKind 67 = .ok (.iload_n 2, 1) := by decide +kernel
theorem dX6_ofKind_68 : decode cX6_ofKind 68 = .ok (.invokevirtual 38, 3) := by decide +kernel
theorem dX6_ofKind_71 : decode cX6_ofKind 71 = .ok (.ireturn, 1) := by decide +kernel
theorem dX6_ofKind_72 : decode cX6_ofKind 72 = .ok (.aload_n 0, 1) := by decide +kernel
theorem dX6_ofKind_73 : decode cX6_ofKind 73 = .ok (.iload_n 2, 1) := by decide +kernel
theorem dX6_ofKind_74 : decode cX6_ofKind 74 = .ok (.invokevirtual 41, 3) := by decide +kernel
theorem dX6_ofKind_77 : decode cX6_ofKind 77 = .ok (.ireturn, 1) := by decide +kernel
theorem dX6_ofKind_78 : decode cX6_ofKind 78 = .ok (.aload_n 0, 1) := by decide +kernel
theorem dX6_ofKind_79 : decode cX6_ofKind 79 = .ok (.iload_n 2, 1) := by decide +kernel
theorem dX6_ofKind_80 : decode cX6_ofKind 80 = .ok (.invokevirtual 44, 3) := by decide +kernel
theorem dX6_ofKind_83 : decode cX6_ofKind 83 = .ok (.ireturn, 1) := by decide +kernel
theorem dX6_ofKind_84 : decode cX6_ofKind 84 = .ok (.aload_n 0, 1) := by decide +kernel
theorem dX6_ofKind_85 : decode cX6_ofKind 85 = .ok (.iload_n 2, 1) := by decide +kernel
theorem dX6_ofKind_86 : decode cX6_ofKind 86 = .ok (.invokevirtual 47, 3) := by decide +kernel
theorem dX6_ofKind_89 : decode cX6_ofKind 89 = .ok (.ireturn, 1) := by decide +kernel
theorem dX6_ofKind_90 : decode cX6_ofKind 90 = .ok (.aload_n 0, 1) := by decide +kernel
theorem dX6_ofKind_91 : decode cX6_ofKind 91 = .ok (.getfield 22, 3) := by decide +kernel
theorem dX6_ofKind_94 : decode cX6_ofKind 94 = .ok (.iload_n 2, 1) := by decide +kernel
theorem dX6_ofKind_95 : decode cX6_ofKind 95 = .ok (.invokevirtual 50, 3) := by decide +kernel
theorem dX6_ofKind_98 : decode cX6_ofKind 98 = .ok (.ireturn, 1) := by decide +kernel
theorem dX6_ofKind_99 : decode cX6_ofKind 99 = .ok (.aload_n 0, 1) := by decide +kernel
theorem dX6_ofKind_100 : decode cX6_ofKind 100 = .ok (.iload_n 2, 1) := by decide +kernel
theorem dX6_ofKind_101 : decode cX6_ofKind 101 = .ok (.invokevirtual 55, 3) := by decide +kernel
theorem dX6_ofKind_104 : decode cX6_ofKind 104 = .ok (.ireturn, 1) := by decide +kernel
theorem dX6_ofKind_105 : decode cX6_ofKind 105 = .ok (.aload_n 0, 1) := by decide +kernel
theorem dX6_ofKind_106 : decode cX6_ofKind 106 = .ok (.getfield 26, 3) := by decide +kernel
theorem dX6_ofKind_109 : decode cX6_ofKind 109 = .ok (.iload_n 2, 1) := by decide +kernel
theorem dX6_ofKind_110 : decode cX6_ofKind 110 = .ok (.invokevirtual 58, 3) := by decide +kernel
theorem dX6_ofKind_113 : decode cX6_ofKind 113 = .ok (.ireturn, 1) := by decide +kernel
theorem dX6_ofKind_114 : decode cX6_ofKind 114 = .ok (.aload_n 0, 1) := by decide +kernel
theorem dX6_ofKind_115 : decode cX6_ofKind 115 = .ok (.iload_n 2, 1) := by decide +kernel
theorem dX6_ofKind_116 : decode cX6_ofKind 116 = .ok (.iconst 0, 1) := by decide +kernel
theorem dX6_ofKind_117 : decode cX6_ofKind 117 = .ok (.invokevirtual 63, 3) := by decide +kernel
theorem dX6_ofKind_120 : decode cX6_ofKind 120 = .ok (.ireturn, 1) := by decide +kernel
theorem dX6_ofKind_121 : decode cX6_ofKind 121 = .ok (.aload_n 0, 1) := by decide +kernel
theorem dX6_ofKind_122 : decode cX6_ofKind 122 = .ok (.getfield 30, 3) := by decide +kernel
theorem dX6_ofKind_125 : decode cX6_ofKind 125 = .ok (.iload_n 2, 1) := by decide +kernel
theorem dX6_ofKind_126 : decode cX6_ofKind 126 = .ok (.invokevirtual 67, 3) := by decide +kernel
theorem dX6_ofKind_129 : decode cX6_ofKind 129 = .ok (.ireturn, 1) := by decide +kernel
theorem dX6_ofKind_130 : decode cX6_ofKind 130 = .ok (.iconst 0, 1) := by decide +kernel
theorem dX6_ofKind_131 : decode cX6_ofKind 131 = .ok (.ireturn, 1) := by decide +kernel
theorem dX6_top_0 : decode cX6_top 0 = .ok (.iconst 0, 1) := by decide +kernel
theorem dX6_top_1 : decode cX6_top 1 = .ok (.istore_n 2, 1) := by decide +kernel
theorem dX6_top_2 : decode cX6_top 2 = .ok (.iload_n 2, 1) := by decide +kernel
theorem dX6_top_3 : decode cX6_top 3 = .ok (.aload_n 0, 1) := by decide +kernel
theorem dX6_top_4 : decode cX6_top 4 = .ok (.getfield 18, 3) := by decide +kernel
theorem dX6_top_7 : decode cX6_top 7 = .ok (.getfield 72, 3) := by decide +kernel
theorem dX6_top_10 : decode cX6_top 10 = .ok (.if_icmp .ge 33, 3) := by decide +kernel
theorem dX6_top_13 : decode cX6_top 13 = .ok (.iload_n 1, 1) := by decide +kernel
theorem dX6_top_14 : decode cX6_top 14 = .ok (.iload_n 2, 1) := by decide +kernel
theorem dX6_top_15 : decode cX6_top 15 = .ok (.invokestatic 78, 3) := by decide +kernel
theorem dX6_top_18 : decode cX6_top 18 = .ok (.iconst 1, 1) := by decide +kernel
theorem dX6_top_19 : decode cX6_top 19 = .ok (.if_icmp .ne 18, 3) := by decide +kernel
theorem dX6_top_22 : decode cX6_top 22 = .ok (.aload_n 0, 1) := by decide +kernel
theorem dX6_top_23 : decode cX6_top 23 = .ok (.getfield 15, 3) := by decide +kernel
theorem dX6_top_26 : decode cX6_top 26 = .ok (.iload_n 2, 1) := by decide +kernel
theorem dX6_top_27 : decode cX6_top 27 = .ok (.aload_n 0, 1) := by decide +kernel
theorem dX6_top_28 : decode cX6_top 28 = .ok (.getfield 18, 3) := by decide +kernel
theorem dX6_top_31 : decode cX6_top 31 = .ok (.iload_n 2, 1) := by decide +kernel
theorem dX6_top_32 : decode cX6_top 32 = .ok (.iload_n 1, 1) := by decide +kernel
theorem dX6_top_33 : decode cX6_top 33 = .ok (.invokevirtual 81, 3) := by decide +kernel
theorem dX6_top_36 : decode cX6_top 36 = .ok (.iastore, 1) := by decide +kernel
theorem dX6_top_37 : decode cX6_top 37 = .ok (.iinc 2 1, 3) := by decide +kernel
theorem dX6_top_40 : decode cX6_top 40 = .ok (.goto (-38), 3) := by decide +kernel
theorem dX6_top_43 : decode cX6_top 43 = .ok (.aload_n 0, 1) := by decide +kernel
theorem dX6_top_44 : decode cX6_top 44 = .ok (.iconst 0, 1) := by decide +kernel
theorem dX6_top_45 : decode cX6_top 45 = .ok (.iload_n 1, 1) := by decide +kernel
theorem dX6_top_46 : decode cX6_top 46 = .ok (.invokevirtual 84, 3) := by decide +kernel
theorem dX6_top_49 : decode cX6_top 49 = .ok (.aload_n 0, 1) := by decide +kernel
theorem dX6_top_50 : decode cX6_top 50 = .ok (.iconst 0, 1) := by decide +kernel
theorem dX6_top_51 : decode cX6_top 51 = .ok (.iload_n 1, 1) := by decide +kernel
theorem dX6_top_52 : decode cX6_top 52 = .ok (.invokevirtual 88, 3) := by decide +kernel
theorem dX6_top_55 : decode cX6_top 55 = .ok (.ireturn, 1) := by decide +kernel
theorem dX6_most_0 : decode cX6_most 0 = .ok (.iconst (-1), 1) := by decide +kernel
theorem dX6_most_1 : decode cX6_most 1 = .ok (.istore_n 2, 1) := by decide +kernel
theorem dX6_most_2 : decode cX6_most 2 = .ok (.iconst 0, 1) := by decide +kernel
theorem dX6_most_3 : decode cX6_most 3 = .ok (.istore_n 3, 1) := by decide +kernel
theorem dX6_most_4 : decode cX6_most 4 = .ok (.iconst 0, 1) := by decide +kernel
theorem dX6_most_5 : decode cX6_most 5 = .ok (.istore 4, 2) := by decide +kernel
theorem dX6_most_7 : decode cX6_most 7 = .ok (.iload 4, 2) := by decide +kernel
theorem dX6_most_9 : decode cX6_most 9 = .ok (.aload_n 0, 1) := by decide +kernel
theorem dX6_most_10 : decode cX6_most 10 = .ok (.getfield 18, 3) := by decide +kernel
theorem dX6_most_13 : decode cX6_most 13 = .ok (.getfield 72, 3) := by decide +kernel
theorem dX6_most_16 : decode cX6_most 16 = .ok (.if_icmp .ge 62, 3) := by decide +kernel
theorem dX6_most_19 : decode cX6_most 19 = .ok (.iload_n 1, 1) := by decide +kernel
theorem dX6_most_20 : decode cX6_most 20 = .ok (.iload 4, 2) := by decide +kernel
theorem dX6_most_22 : decode cX6_most 22 = .ok (.invokestatic 78, 3) := by decide +kernel
theorem dX6_most_25 : decode cX6_most 25 = .ok (.ifCond .ne 6, 3) := by decide +kernel
theorem dX6_most_28 : decode cX6_most 28 = .ok (.goto 44, 3) := by decide +kernel
theorem dX6_most_31 : decode cX6_most 31 = .ok (.aload_n 0, 1) := by decide +kernel
theorem dX6_most_32 : decode cX6_most 32 = .ok (.getfield 18, 3) := by decide +kernel
theorem dX6_most_35 : decode cX6_most 35 = .ok (.getfield 91, 3) := by decide +kernel
theorem dX6_most_38 : decode cX6_most 38 = .ok (.iload 4, 2) := by decide +kernel
theorem dX6_most_40 : decode cX6_most 40 = .ok (.iaload, 1) := by decide +kernel
theorem dX6_most_41 : decode cX6_most 41 = .ok (.iload_n 1, 1) := by decide +kernel
theorem dX6_most_42 : decode cX6_most 42 = .ok (.iand, 1) := by decide +kernel
theorem dX6_most_43 : decode cX6_most 43 = .ok (.invokestatic 94, 3) := by decide +kernel
theorem dX6_most_46 : decode cX6_most 46 = .ok (.istore 5, 2) := by decide +kernel
theorem dX6_most_48 : decode cX6_most 48 = .ok (.iload 5, 2) := by decide +kernel
theorem dX6_most_50 : decode cX6_most 50 = .ok (.iload_n 2, 1) := by decide +kernel
theorem dX6_most_51 : decode cX6_most 51 = .ok (.if_icmp .le 8, 3) := by decide +kernel
theorem dX6_most_54 : decode cX6_most 54 = .ok (.iload 5, 2) := by decide +kernel
theorem dX6_most_56 : decode cX6_most 56 = .ok (.istore_n 2, 1) := by decide +kernel
theorem dX6_most_57 : decode cX6_most 57 = .ok (.iconst 0, 1) := by decide +kernel
theorem dX6_most_58 : decode cX6_most 58 = .ok (.istore_n 3, 1) := by decide +kernel
theorem dX6_most_59 : decode cX6_most 59 = .ok (.iload 5, 2) := by decide +kernel
theorem dX6_most_61 : decode cX6_most 61 = .ok (.iload_n 2, 1) := by decide +kernel
theorem dX6_most_62 : decode cX6_most 62 = .ok (.if_icmp .ne 10, 3) := by decide +kernel
theorem dX6_most_65 : decode cX6_most 65 = .ok (.iload_n 3, 1) := by decide +kernel
theorem dX6_most_66 : decode cX6_most 66 = .ok (.iconst 1, 1) := by decide +kernel
theorem dX6_most_67 : decode cX6_most 67 = .ok (.iload 4, 2) := by decide +kernel
theorem dX6_most_69 : decode cX6_most 69 = .ok (.ishl, 1) := by decide +kernel
theorem dX6_most_70 : decode cX6_most 70 = .ok (.ior, 1) := by decide +kernel
theorem dX6_most_71 : decode cX6_most 71 = .ok (.istore_n 3, 1) := by decide +kernel
theorem dX6_most_72 : decode cX6_most 72 = .ok (.iinc 4 1, 3) := by decide +kernel
theorem dX6_most_75 : decode cX6_most 75 = .ok (.goto (-68), 3) := by decide +kernel
theorem dX6_most_78 : decode cX6_most 78 = .ok (.iload_n 3, 1) := by decide +kernel
theorem dX6_most_79 : decode cX6_most 79 = .ok (.ireturn, 1) := by decide +kernel
theorem dX6_isCovering_0 : decode cX6_isCovering 0 = .ok (.aload_n 0, 1) := by decide +kernel
theorem dX6_isCovering_1 : decode cX6_isCovering 1 = .ok (.getfield 18, 3) := by decide +kernel
theorem dX6_isCovering_4 : decode cX6_isCovering 4 = .ok (.getfield 91, 3) := by decide +kernel
theorem dX6_isCovering_7 : decode cX6_isCovering 7 = .ok (.iload_n 2, 1) := by decide +kernel
theorem dX6_isCovering_8 : decode cX6_isCovering 8 = .ok (.iaload, 1) := by decide +kernel
theorem dX6_isCovering_9 : decode cX6_isCovering 9 = .ok (.iload_n 3, 1) := by decide +kernel
theorem dX6_isCovering_10 : decode cX6_isCovering 10 = .ok (.iand, 1) := by decide +kernel
theorem dX6_isCovering_11 : decode cX6_isCovering 11 = .ok (.iconst 1, 1) := by decide +kernel
theorem dX6_isCovering_12 : decode cX6_isCovering 12 = .ok (.iload_n 2, 1) := by decide +kernel
theorem dX6_isCovering_13 : decode cX6_isCovering 13 = .ok (.ishl, 1) := by decide +kernel
theorem dX6_isCovering_14 : decode cX6_isCovering 14 = .ok (.ior, 1) := by decide +kernel
theorem dX6_isCovering_15 : decode cX6_isCovering 15 = .ok (.istore 4, 2) := by decide +kernel
theorem dX6_isCovering_17 : decode cX6_isCovering 17 = .ok (.iload 4, 2) := by decide +kernel
theorem dX6_isCovering_19 : decode cX6_isCovering 19 = .ok (.aload_n 0, 1) := by decide +kernel
theorem dX6_isCovering_20 : decode cX6_isCovering 20 = .ok (.getfield 18, 3) := by decide +kernel
theorem dX6_isCovering_23 : decode cX6_isCovering 23 = .ok (.getfield 91, 3) := by decide +kernel
theorem dX6_isCovering_26 : decode cX6_isCovering 26 = .ok (.iload_n 1, 1) := by decide +kernel
theorem dX6_isCovering_27 : decode cX6_isCovering 27 = .ok (.iaload, 1) := by decide +kernel
theorem dX6_isCovering_28 : decode cX6_isCovering 28 = .ok (.iconst (-1), 1) := by decide +kernel
theorem dX6_isCovering_29 : decode cX6_isCovering 29 = .ok (.ixor, 1) := by decide +kernel
theorem dX6_isCovering_30 : decode cX6_isCovering 30 = .ok (.iand, 1) := by decide +kernel
theorem dX6_isCovering_31 : decode cX6_isCovering 31 = .ok (.ifCond .ne 7, 3) := by decide +kernel
theorem dX6_isCovering_34 : decode cX6_isCovering 34 = .ok (.iconst 1, 1) := by decide +kernel
theorem dX6_isCovering_35 : decode cX6_isCovering 35 = .ok (.goto 4, 3) := by decide +kernel
theorem dX6_isCovering_38 : decode cX6_isCovering 38 = .ok (.iconst 0, 1) := by decide +kernel
theorem dX6_isCovering_39 : decode cX6_isCovering 39 = .ok (.ireturn, 1) := by decide +kernel
theorem dX6_isCovered_0 : decode cX6_isCovered 0 = .ok (.iconst 0, 1) := by decide +kernel
theorem dX6_isCovered_1 : decode cX6_isCovered 1 = .ok (.istore_n 3, 1) := by decide +kernel
theorem dX6_isCovered_2 : decode cX6_isCovered 2 = .ok (.iload_n 3, 1) := by decide +kernel
theorem dX6_isCovered_3 : decode cX6_isCovered 3 = .ok (.aload_n 0, 1) := by decide +kernel
theorem dX6_isCovered_4 : decode cX6_isCovered 4 = .ok (.getfield 18, 3) := by decide +kernel
theorem dX6_isCovered_7 : decode cX6_isCovered 7 = .ok (.getfield 72, 3) := by decide +kernel
theorem dX6_isCovered_10 : decode cX6_isCovered 10 = .ok (.if_icmp .ge 30, 3) := by decide +kernel
theorem dX6_isCovered_13 : decode cX6_isCovered 13 = .ok (.iload_n 2, 1) := by decide +kernel
theorem dX6_isCovered_14 : decode cX6_isCovered 14 = .ok (.iload_n 3, 1) := by decide +kernel
theorem dX6_isCovered_15 : decode cX6_isCovered 15 = .ok (.invokestatic 78, 3) := by decide +kernel
theorem dX6_isCovered_18 : decode cX6_isCovered 18 = .ok (.iconst 1, 1) := by decide +kernel
theorem dX6_isCovered_19 : decode cX6_isCovered 19 = .ok (.if_icmp .ne 15, 3) := by decide +kernel
theorem dX6_isCovered_22 : decode cX6_isCovered 22 = .ok (.aload_n 0, 1) := by decide +kernel
theorem dX6_isCovered_23 : decode cX6_isCovered 23 = .ok (.iload_n 3, 1) := by decide +kernel
theorem dX6_isCovered_24 : decode cX6_isCovered 24 = .ok (.iload_n 1, 1) := by decide +kernel
theorem dX6_isCovered_25 : decode cX6_isCovered 25 = .ok (.iload_n 2, 1) := by decide +kernel
theorem dX6_isCovered_26 : decode cX6_isCovered 26 = .ok (.invokevirtual 99, 3) := by decide +kernel
theorem dX6_isCovered_29 : decode cX6_isCovered 29 = .ok (.ifCond .eq 5, 3) := by decide +kernel
theorem dX6_isCovered_32 : decode cX6_isCovered 32 = .ok (.iconst 1, 1) := by decide +kernel
theorem dX6_isCovered_33 : decode cX6_isCovered 33 = .ok (.ireturn, 1) := by decide +kernel
theorem dX6_isCovered_34 : decode cX6_isCovered 34 = .ok (.iinc 3 1, 3) := by decide +kernel
theorem dX6_isCovered_37 : decode cX6_isCovered 37 = .ok (.goto (-35), 3) := by decide +kernel
theorem dX6_isCovered_40 : decode cX6_isCovered 40 = .ok (.iconst 0, 1) := by decide +kernel
theorem dX6_isCovered_41 : decode cX6_isCovered 41 = .ok (.ireturn, 1) := by decide +kernel
theorem dX6_uncovered_0 : decode cX6_uncovered 0 = .ok (.iconst 0, 1) := by decide +kernel
theorem dX6_uncovered_1 : decode cX6_uncovered 1 = .ok (.istore_n 2, 1) := by decide +kernel
theorem dX6_uncovered_2 : decode cX6_uncovered 2 = .ok (.iconst 0, 1) := by decide +kernel
theorem dX6_uncovered_3 : decode cX6_uncovered 3 = .ok (.istore_n 3, 1) := by decide +kernel
theorem dX6_uncovered_4 : decode cX6_uncovered 4 = .ok (.iload_n 3, 1) := by decide +kernel
theorem dX6_uncovered_5 : decode cX6_uncovered 5 = .ok (.aload_n 0, 1) := by decide +kernel
theorem dX6_uncovered_6 : decode cX6_uncovered 6 = .ok (.getfield 18, 3) := by decide +kernel
theorem dX6_uncovered_9 : decode cX6_uncovered 9 = .ok (.getfield 72, 3) := by decide +kernel
theorem dX6_uncovered_12 : decode cX6_uncovered 12 = .ok (.if_icmp .ge 33, 3) := by decide +kernel
theorem dX6_uncovered_15 : decode cX6_uncovered 15 = .ok (.iload_n 1, 1) := by decide +kernel
theorem dX6_uncovered_16 : decode cX6_uncovered 16 = .ok (.iload_n 3, 1) := by decide +kernel
theorem dX6_uncovered_17 : decode cX6_uncovered 17 = .ok (.invokestatic 78, 3) := by decide +kernel
theorem dX6_uncovered_20 : decode cX6_uncovered 20 = .ok (.iconst 1, 1) := by decide +kernel
theorem dX6_uncovered_21 : decode cX6_uncovered 21 = .ok (.if_icmp .ne 18, 3) := by decide +kernel
theorem dX6_uncovered_24 : decode cX6_uncovered 24 = .ok (.aload_n 0, 1) := by decide +kernel
theorem dX6_uncovered_25 : decode cX6_uncovered 25 = .ok (.iload_n 3, 1) := by decide +kernel
theorem dX6_uncovered_26 : decode cX6_uncovered 26 = .ok (.iload_n 1, 1) := by decide +kernel
theorem dX6_uncovered_27 : decode cX6_uncovered 27 = .ok (.invokevirtual 103, 3) := by decide +kernel
theorem dX6_uncovered_30 : decode cX6_uncovered 30 = .ok (.ifCond .ne 9, 3) := by decide +kernel
theorem dX6_uncovered_33 : decode cX6_uncovered 33 = .ok (.iload_n 2, 1) := by decide +kernel
theorem dX6_uncovered_34 : decode cX6_uncovered 34 = .ok (.iconst 1, 1) := by decide +kernel
theorem dX6_uncovered_35 : decode cX6_uncovered 35 = .ok (.iload_n 3, 1) := by decide +kernel
theorem dX6_uncovered_36 : decode cX6_uncovered 36 = .ok (.ishl, 1) := by decide +kernel
theorem dX6_uncovered_37 : decode cX6_uncovered 37 = .ok (.ior, 1) := by decide +kernel
theorem dX6_uncovered_38 : decode cX6_uncovered 38 = .ok (.istore_n 2, 1) := by decide +kernel
theorem dX6_uncovered_39 : decode cX6_uncovered 39 = .ok (.iinc 3 1, 3) := by decide +kernel
theorem dX6_uncovered_42 : decode cX6_uncovered 42 = .ok (.goto (-38), 3) := by decide +kernel
theorem dX6_uncovered_45 : decode cX6_uncovered 45 = .ok (.iload_n 2, 1) := by decide +kernel
theorem dX6_uncovered_46 : decode cX6_uncovered 46 = .ok (.ireturn, 1) := by decide +kernel
theorem dX6_uncoveredAgain_0 : decode cX6_uncoveredAgain 0 = .ok (.iload_n 1, 1) := by decide +kernel
theorem dX6_uncoveredAgain_1 : decode cX6_uncoveredAgain 1 = .ok (.istore_n 2, 1) := by decide +kernel
theorem dX6_uncoveredAgain_2 : decode cX6_uncoveredAgain 2 = .ok (.iconst 0, 1) := by decide +kernel
theorem dX6_uncoveredAgain_3 : decode cX6_uncoveredAgain 3 = .ok (.istore_n 3, 1) := by decide +kernel
theorem dX6_uncoveredAgain_4 : decode cX6_uncoveredAgain 4 = .ok (.iload_n 3, 1) := by decide +kernel
theorem dX6_uncoveredAgain_5 : decode cX6_uncoveredAgain 5 = .ok (.bipush 8, 2) := by decide +kernel
theorem dX6_uncoveredAgain_7 : decode cX6_uncoveredAgain 7 = .ok (.if_icmp .ge 15, 3) := by decide +kernel
theorem dX6_uncoveredAgain_10 : decode cX6_uncoveredAgain 10 = .ok (.aload_n 0, 1) := by decide +kernel
theorem dX6_uncoveredAgain_11 : decode cX6_uncoveredAgain 11 = .ok (.iload_n 2, 1) := by decide +kernel
theorem dX6_uncoveredAgain_12 : decode cX6_uncoveredAgain 12 = .ok (.invokevirtual 41, 3) := by decide +kernel
theorem dX6_uncoveredAgain_15 : decode cX6_uncoveredAgain 15 = .ok (.istore_n 2, 1) := by decide +kernel
theorem dX6_uncoveredAgain_16 : decode cX6_uncoveredAgain 16 = .ok (.iinc 3 1, 3) := by decide +kernel
theorem dX6_uncoveredAgain_19 : decode cX6_uncoveredAgain 19 = .ok (.goto (-15), 3) := by decide +kernel
theorem dX6_uncoveredAgain_22 : decode cX6_uncoveredAgain 22 = .ok (.iload_n 2, 1) := by decide +kernel
theorem dX6_uncoveredAgain_23 : decode cX6_uncoveredAgain 23 = .ok (.ireturn, 1) := by decide +kernel
theorem dX6_banks_0 : decode cX6_banks 0 = .ok (.iconst 0, 1) := by decide +kernel
theorem dX6_banks_1 : decode cX6_banks 1 = .ok (.istore_n 2, 1) := by decide +kernel
theorem dX6_banks_2 : decode cX6_banks 2 = .ok (.iconst 0, 1) := by decide +kernel
theorem dX6_banks_3 : decode cX6_banks 3 = .ok (.istore_n 3, 1) := by decide +kernel
theorem dX6_banks_4 : decode cX6_banks 4 = .ok (.iload_n 3, 1) := by decide +kernel
theorem dX6_banks_5 : decode cX6_banks 5 = .ok (.aload_n 0, 1) := by decide +kernel
theorem dX6_banks_6 : decode cX6_banks 6 = .ok (.getfield 18, 3) := by decide +kernel
theorem dX6_banks_9 : decode cX6_banks 9 = .ok (.getfield 72, 3) := by decide +kernel
theorem dX6_banks_12 : decode cX6_banks 12 = .ok (.if_icmp .ge 33, 3) := by decide +kernel
theorem dX6_banks_15 : decode cX6_banks 15 = .ok (.iload_n 1, 1) := by decide +kernel
theorem dX6_banks_16 : decode cX6_banks 16 = .ok (.iload_n 3, 1) := by decide +kernel
theorem dX6_banks_17 : decode cX6_banks 17 = .ok (.invokestatic 78, 3) := by decide +kernel
theorem dX6_banks_20 : decode cX6_banks 20 = .ok (.iconst 1, 1) := by decide +kernel
theorem dX6_banks_21 : decode cX6_banks 21 = .ok (.if_icmp .ne 18, 3) := by decide +kernel
theorem dX6_banks_24 : decode cX6_banks 24 = .ok (.aload_n 0, 1) := by decide +kernel
theorem dX6_banks_25 : decode cX6_banks 25 = .ok (.iload_n 3, 1) := by decide +kernel
theorem dX6_banks_26 : decode cX6_banks 26 = .ok (.iload_n 1, 1) := by decide +kernel
theorem dX6_banks_27 : decode cX6_banks 27 = .ok (.invokevirtual 107, 3) := by decide +kernel
theorem dX6_banks_30 : decode cX6_banks 30 = .ok (.ifCond .le 9, 3) := by decide +kernel
theorem dX6_banks_33 : decode cX6_banks 33 = .ok (.iload_n 2, 1) := by decide +kernel
theorem dX6_banks_34 : decode cX6_banks 34 = .ok (.iconst 1, 1) := by decide +kernel
theorem dX6_banks_35 : decode cX6_banks 35 = .ok (.iload_n 3, 1) := by decide +kernel
theorem dX6_banks_36 : decode cX6_banks 36 = .ok (.ishl, 1) := by decide +kernel
theorem dX6_banks_37 : decode cX6_banks 37 = .ok (.ior, 1) := by decide +kernel
theorem dX6_banks_38 : decode cX6_banks 38 = .ok (.istore_n 2, 1) := by decide +kernel
theorem dX6_banks_39 : decode cX6_banks 39 = .ok (.iinc 3 1, 3) := by decide +kernel
theorem dX6_banks_42 : decode cX6_banks 42 = .ok (.goto (-38), 3) := by decide +kernel
theorem dX6_banks_45 : decode cX6_banks 45 = .ok (.iload_n 2, 1) := by decide +kernel
theorem dX6_banks_46 : decode cX6_banks 46 = .ok (.ireturn, 1) := by decide +kernel
theorem dX6_leastChain_0 : decode cX6_leastChain 0 = .ok (.aload_n 0, 1) := by decide +kernel
theorem dX6_leastChain_1 : decode cX6_leastChain 1 = .ok (.getfield 9, 3) := by decide +kernel
theorem dX6_leastChain_4 : decode cX6_leastChain 4 = .ok (.iconst 0, 1) := by decide +kernel
theorem dX6_leastChain_5 : decode cX6_leastChain 5 = .ok (.iload_n 1, 1) := by decide +kernel
theorem dX6_leastChain_6 : decode cX6_leastChain 6 = .ok (.iastore, 1) := by decide +kernel
theorem dX6_leastChain_7 : decode cX6_leastChain 7 = .ok (.aload_n 0, 1) := by decide +kernel
theorem dX6_leastChain_8 : decode cX6_leastChain 8 = .ok (.iconst 1, 1) := by decide +kernel
theorem dX6_leastChain_9 : decode cX6_leastChain 9 = .ok (.aload_n 0, 1) := by decide +kernel
theorem dX6_leastChain_10 : decode cX6_leastChain 10 = .ok (.getfield 18, 3) := by decide +kernel
theorem dX6_leastChain_13 : decode cX6_leastChain 13 = .ok (.getfield 91, 3) := by decide +kernel
theorem dX6_leastChain_16 : decode cX6_leastChain 16 = .ok (.iload_n 1, 1) := by decide +kernel
theorem dX6_leastChain_17 : decode cX6_leastChain 17 = .ok (.iaload, 1) := by decide +kernel
theorem dX6_leastChain_18 : decode cX6_leastChain 18 = .ok (.iload_n 2, 1) := by decide +kernel
theorem dX6_leastChain_19 : decode cX6_leastChain 19 = .ok (.iand, 1) := by decide +kernel
theorem dX6_leastChain_20 : decode cX6_leastChain 20 = .ok (.aload_n 0, 1) := by decide +kernel
theorem dX6_leastChain_21 : decode cX6_leastChain 21 = .ok (.getfield 18, 3) := by decide +kernel
theorem dX6_leastChain_24 : decode cX6_leastChain 24 = .ok (.iload_n 1, 1) := by decide +kernel
theorem dX6_leastChain_25 : decode cX6_leastChain 25 = .ok (.iload_n 2, 1) := by decide +kernel
theorem dX6_leastChain_26 : decode cX6_leastChain 26 = .ok (.invokevirtual 81, 3) := by decide +kernel
theorem dX6_leastChain_29 : decode cX6_leastChain 29 = .ok (.invokevirtual 110, 3) := by decide +kernel
theorem dX6_leastChain_32 : decode cX6_leastChain 32 = .ok (.ireturn, 1) := by decide +kernel
theorem dX6_chainFrom_0 : decode cX6_chainFrom 0 = .ok (.iload_n 3, 1) := by decide +kernel
theorem dX6_chainFrom_1 : decode cX6_chainFrom 1 = .ok (.ifCond .ne 5, 3) := by decide +kernel
theorem dX6_chainFrom_4 : decode cX6_chainFrom 4 = .ok (.iload_n 1, 1) := by decide +kernel
theorem dX6_chainFrom_5 : decode cX6_chainFrom 5 = .ok (.ireturn, 1) := by decide +kernel
theorem dX6_chainFrom_6 : decode cX6_chainFrom 6 = .ok (.iload_n 1, 1) := by decide +kernel
theorem dX6_chainFrom_7 : decode cX6_chainFrom 7 = .ok (.bipush 8, 2) := by decide +kernel
theorem dX6_chainFrom_9 : decode cX6_chainFrom 9 = .ok (.if_icmp .lt 5, 3) := by decide +kernel
theorem dX6_chainFrom_12 : decode cX6_chainFrom 12 = .ok (.iconst 0, 1) := by decide +kernel
theorem dX6_chainFrom_13 : decode cX6_chainFrom 13 = .ok (.ireturn, 1) := by decide +kernel
theorem dX6_chainFrom_14 : decode cX6_chainFrom 14 = .ok (.iconst 0, 1) := by decide +kernel
theorem dX6_chainFrom_15 : decode cX6_chainFrom 15 = .ok (.istore 4, 2) := by decide +kernel
theorem dX6_chainFrom_17 : decode cX6_chainFrom 17 = .ok (.iload 4, 2) := by decide +kernel
theorem dX6_chainFrom_19 : decode cX6_chainFrom 19 = .ok (.aload_n 0, 1) := by decide +kernel
theorem dX6_chainFrom_20 : decode cX6_chainFrom 20 = .ok (.getfield 18, 3) := by decide +kernel
theorem dX6_chainFrom_23 : decode cX6_chainFrom 23 = .ok (.getfield 72, 3) := by decide +kernel
theorem dX6_chainFrom_26 : decode cX6_chainFrom 26 = .ok (.if_icmp .ge 66, 3) := by decide +kernel
theorem dX6_chainFrom_29 : decode cX6_chainFrom 29 = .ok (.iload_n 2, 1) := by decide +kernel
theorem dX6_chainFrom_30 : decode cX6_chainFrom 30 = .ok (.iload 4, 2) := by decide +kernel
theorem dX6_chainFrom_32 : decode cX6_chainFrom 32 = .ok (.invokestatic 78, 3) := by decide +kernel
theorem dX6_chainFrom_35 : decode cX6_chainFrom 35 = .ok (.iconst 1, 1) := by decide +kernel
theorem dX6_chainFrom_36 : decode cX6_chainFrom 36 = .ok (.if_icmp .ne 50, 3) := by decide +kernel
theorem dX6_chainFrom_39 : decode cX6_chainFrom 39 = .ok (.aload_n 0, 1) := by decide +kernel
theorem dX6_chainFrom_40 : decode cX6_chainFrom 40 = .ok (.getfield 9, 3) := by decide +kernel
theorem dX6_chainFrom_43 : decode cX6_chainFrom 43 = .ok (.iload_n 1, 1) := by decide +kernel
theorem dX6_chainFrom_44 : decode cX6_chainFrom 44 = .ok (.iload 4, 2) := by decide +kernel
theorem dX6_chainFrom_46 : decode cX6_chainFrom 46 = .ok (.iastore, 1) := by decide +kernel
theorem dX6_chainFrom_47 : decode cX6_chainFrom 47 = .ok (.aload_n 0, 1) := by decide +kernel
theorem dX6_chainFrom_48 : decode cX6_chainFrom 48 = .ok (.iload_n 1, 1) := by decide +kernel
theorem dX6_chainFrom_49 : decode cX6_chainFrom 49 = .ok (.iconst 1, 1) := by decide +kernel
theorem dX6_chainFrom_50 : decode cX6_chainFrom 50 = .ok (.iadd, 1) := by decide +kernel
theorem dX6_chainFrom_51 : decode cX6_chainFrom 51 = .ok (.iload_n 2, 1) := by decide +kernel
theorem dX6_chainFrom_52 : decode cX6_chainFrom 52 = .ok (.aload_n 0, 1) := by decide +kernel
theorem dX6_chainFrom_53 : decode cX6_chainFrom 53 = .ok (.getfield 18, 3) := by decide +kernel
theorem dX6_chainFrom_56 : decode cX6_chainFrom 56 = .ok (.getfield 91, 3) := by decide +kernel
theorem dX6_chainFrom_59 : decode cX6_chainFrom 59 = .ok (.iload 4, 2) := by decide +kernel
theorem dX6_chainFrom_61 : decode cX6_chainFrom 61 = .ok (.iaload, 1) := by decide +kernel
theorem dX6_chainFrom_62 : decode cX6_chainFrom 62 = .ok (.iand, 1) := by decide +kernel
theorem dX6_chainFrom_63 : decode cX6_chainFrom 63 = .ok (.aload_n 0, 1) := by decide +kernel
theorem dX6_chainFrom_64 : decode cX6_chainFrom 64 = .ok (.getfield 18, 3) := by decide +kernel
theorem dX6_chainFrom_67 : decode cX6_chainFrom 67 = .ok (.iload 4, 2) := by decide +kernel
theorem dX6_chainFrom_69 : decode cX6_chainFrom 69 = .ok (.iload_n 3, 1) := by decide +kernel
theorem dX6_chainFrom_70 : decode cX6_chainFrom 70 = .ok (.invokevirtual 81, 3) := by decide +kernel
theorem dX6_chainFrom_73 : decode cX6_chainFrom 73 = .ok (.invokevirtual 110, 3) := by decide +kernel
theorem dX6_chainFrom_76 : decode cX6_chainFrom 76 = .ok (.istore 5, 2) := by decide +kernel
theorem dX6_chainFrom_78 : decode cX6_chainFrom 78 = .ok (.iload 5, 2) := by decide +kernel
theorem dX6_chainFrom_80 : decode cX6_chainFrom 80 = .ok (.ifCond .le 6, 3) := by decide +kernel
theorem dX6_chainFrom_83 : decode cX6_chainFrom 83 = .ok (.iload 5, 2) := by decide +kernel
theorem dX6_chainFrom_85 : decode cX6_chainFrom 85 = .ok (.ireturn, 1) := by decide +kernel
theorem dX6_chainFrom_86 : decode cX6_chainFrom 86 = .ok (.iinc 4 1, 3) := by decide +kernel
theorem dX6_chainFrom_89 : decode cX6_chainFrom 89 = .ok (.goto (-72), 3) := by decide +kernel
theorem dX6_chainFrom_92 : decode cX6_chainFrom 92 = .ok (.iconst 0, 1) := by decide +kernel
theorem dX6_chainFrom_93 : decode cX6_chainFrom 93 = .ok (.ireturn, 1) := by decide +kernel
theorem dX6_isCoveringSet_0 : decode cX6_isCoveringSet 0 = .ok (.iload_n 1, 1) := by decide +kernel
theorem dX6_isCoveringSet_1 : decode cX6_isCoveringSet 1 = .ok (.ifCond .ne 5, 3) := by decide +kernel
theorem dX6_isCoveringSet_4 : decode cX6_isCoveringSet 4 = .ok (.iconst 0, 1) := by decide +kernel
theorem dX6_isCoveringSet_5 : decode cX6_isCoveringSet 5 = .ok (.ireturn, 1) := by decide +kernel
theorem dX6_isCoveringSet_6 : decode cX6_isCoveringSet 6 = .ok (.iconst 0, 1) := by decide +kernel
theorem dX6_isCoveringSet_7 : decode cX6_isCoveringSet 7 = .ok (.istore_n 3, 1) := by decide +kernel
theorem dX6_isCoveringSet_8 : decode cX6_isCoveringSet 8 = .ok (.iload_n 3, 1) := by decide +kernel
theorem dX6_isCoveringSet_9 : decode cX6_isCoveringSet 9 = .ok (.aload_n 0, 1) := by decide +kernel
theorem dX6_isCoveringSet_10 : decode cX6_isCoveringSet 10 = .ok (.getfield 18, 3) := by decide +kernel
theorem dX6_isCoveringSet_13 : decode cX6_isCoveringSet 13 = .ok (.getfield 72, 3) := by decide +kernel
theorem dX6_isCoveringSet_16 : decode cX6_isCoveringSet 16 = .ok (.if_icmp .ge 33, 3) := by decide +kernel
theorem dX6_isCoveringSet_19 : decode cX6_isCoveringSet 19 = .ok (.iload_n 2, 1) := by decide +kernel
theorem dX6_isCoveringSet_20 : decode cX6_isCoveringSet 20 = .ok (.iload_n 1, 1) := by decide +kernel
theorem dX6_isCoveringSet_21 : decode cX6_isCoveringSet 21 = .ok (.iconst (-1), 1) := by decide +kernel
theorem dX6_isCoveringSet_22 : decode cX6_isCoveringSet 22 = .ok (.ixor, 1) := by decide +kernel
theorem dX6_isCoveringSet_23 : decode cX6_isCoveringSet 23 = .ok (.iand, 1) := by decide +kernel
theorem dX6_isCoveringSet_24 : decode cX6_isCoveringSet 24 = .ok (.iload_n 3, 1) := by decide +kernel
theorem dX6_isCoveringSet_25 : decode cX6_isCoveringSet 25 = .ok (.invokestatic 78, 3) := by decide +kernel
theorem dX6_isCoveringSet_28 : decode cX6_isCoveringSet 28 = .ok (.iconst 1, 1) := by decide +kernel
theorem dX6_isCoveringSet_29 : decode cX6_isCoveringSet 29 = .ok (.if_icmp .ne 14, 3) := by decide +kernel
theorem dX6_isCoveringSet_32 : decode cX6_isCoveringSet 32 = .ok (.aload_n 0, 1) := by decide +kernel
theorem dX6_isCoveringSet_33 : decode cX6_isCoveringSet 33 = .ok (.iload_n 3, 1) := by decide +kernel
theorem dX6_isCoveringSet_34 : decode cX6_isCoveringSet 34 = .ok (.iload_n 1, 1) := by decide +kernel
theorem dX6_isCoveringSet_35 : decode cX6_isCoveringSet 35 = .ok (.invokevirtual 103, 3) := by decide +kernel
theorem dX6_isCoveringSet_38 : decode cX6_isCoveringSet 38 = .ok (.ifCond .ne 5, 3) := by decide +kernel
theorem dX6_isCoveringSet_41 : decode cX6_isCoveringSet 41 = .ok (.iconst 0, 1) := by decide +kernel
theorem dX6_isCoveringSet_42 : decode cX6_isCoveringSet 42 = .ok (.ireturn, 1) := by decide +kernel
theorem dX6_isCoveringSet_43 : decode cX6_isCoveringSet 43 = .ok (.iinc 3 1, 3) := by decide +kernel
theorem dX6_isCoveringSet_46 : decode cX6_isCoveringSet 46 = .ok (.goto (-38), 3) := by decide +kernel
theorem dX6_isCoveringSet_49 : decode cX6_isCoveringSet 49 = .ok (.iconst 1, 1) := by decide +kernel
theorem dX6_isCoveringSet_50 : decode cX6_isCoveringSet 50 = .ok (.ireturn, 1) := by decide +kernel
theorem dX6_leastCovering_0 : decode cX6_leastCovering 0 = .ok (.iload_n 1, 1) := by decide +kernel
theorem dX6_leastCovering_1 : decode cX6_leastCovering 1 = .ok (.istore_n 2, 1) := by decide +kernel
theorem dX6_leastCovering_2 : decode cX6_leastCovering 2 = .ok (.iload_n 1, 1) := by decide +kernel
theorem dX6_leastCovering_3 : decode cX6_leastCovering 3 = .ok (.invokestatic 94, 3) := by decide +kernel
theorem dX6_leastCovering_6 : decode cX6_leastCovering 6 = .ok (.istore_n 3, 1) := by decide +kernel
theorem dX6_leastCovering_7 : decode cX6_leastCovering 7 = .ok (.iconst 1, 1) := by decide +kernel
theorem dX6_leastCovering_8 : decode cX6_leastCovering 8 = .ok (.istore 4, 2) := by decide +kernel
theorem dX6_leastCovering_10 : decode cX6_leastCovering 10 = .ok (.iload 4, 2) := by decide +kernel
theorem dX6_leastCovering_12 : decode cX6_leastCovering 12 = .ok (.iload_n 1, 1) := by decide +kernel
theorem dX6_leastCovering_13 : decode cX6_leastCovering 13 = .ok (.if_icmp .ge 46, 3) := by decide +kernel
theorem dX6_leastCovering_16 : decode cX6_leastCovering 16 = .ok (.iload 4, 2) := by decide +kernel
theorem dX6_leastCovering_18 : decode cX6_leastCovering 18 = .ok (.iload_n 1, 1) := by decide +kernel
theorem dX6_leastCovering_19 : decode cX6_leastCovering 19 = .ok (.iconst (-1), 1) := by decide +kernel
theorem dX6_leastCovering_20 : decode cX6_leastCovering 20 = .ok (.ixor, 1) := by decide +kernel
theorem dX6_leastCovering_21 : decode cX6_leastCovering 21 = .ok (.iand, 1) := by decide +kernel
theorem dX6_leastCovering_22 : decode cX6_leastCovering 22 = .ok (.ifCond .ne 31, 3) := by decide +kernel
theorem dX6_leastCovering_25 : decode cX6_leastCovering 25 = .ok (.iload 4, 2) := by decide +kernel
theorem dX6_leastCovering_27 : decode cX6_leastCovering 27 = .ok (.invokestatic 94, 3) := by decide +kernel
theorem dX6_leastCovering_30 : decode cX6_leastCovering 30 = .ok (.iload_n 3, 1) := by decide +kernel
theorem dX6_leastCovering_31 : decode cX6_leastCovering 31 = .ok (.if_icmp .ge 22, 3) := by decide +kernel
theorem dX6_leastCovering_34 : decode cX6_leastCovering 34 = .ok (.aload_n 0, 1) := by decide +kernel
theorem dX6_leastCovering_35 : decode cX6_leastCovering 35 = .ok (.iload 4, 2) := by decide +kernel
theorem dX6_leastCovering_37 : decode cX6_leastCovering 37 = .ok (.iload_n 1, 1) := by decide +kernel
theorem dX6_leastCovering_38 : decode cX6_leastCovering 38 = .ok (.invokevirtual 114, 3) := by decide +kernel
theorem dX6_leastCovering_41 : decode cX6_leastCovering 41 = .ok (.ifCond .eq 12, 3) := by decide +kernel
theorem dX6_leastCovering_44 : decode cX6_leastCovering 44 = .ok (.iload 4, 2) := by decide +kernel
theorem dX6_leastCovering_46 : decode cX6_leastCovering 46 = .ok (.istore_n 2, 1) := by decide +kernel
theorem dX6_leastCovering_47 : decode cX6_leastCovering 47 = .ok (.iload 4, 2) := by decide +kernel
theorem dX6_leastCovering_49 : decode cX6_leastCovering 49 = .ok (.invokestatic 94, 3) := by decide +kernel
theorem dX6_leastCovering_52 : decode cX6_leastCovering 52 = .ok (.istore_n 3, 1) := by decide +kernel
theorem dX6_leastCovering_53 : decode cX6_leastCovering 53 = .ok (.iinc 4 1, 3) := by decide +kernel
theorem dX6_leastCovering_56 : decode cX6_leastCovering 56 = .ok (.goto (-46), 3) := by decide +kernel
theorem dX6_leastCovering_59 : decode cX6_leastCovering 59 = .ok (.iload_n 2, 1) := by decide +kernel
theorem dX6_leastCovering_60 : decode cX6_leastCovering 60 = .ok (.ireturn, 1) := by decide +kernel
theorem dX6_keeping_0 : decode cX6_keeping 0 = .ok (.iload_n 1, 1) := by decide +kernel
theorem dX6_keeping_1 : decode cX6_keeping 1 = .ok (.ifCond .eq 9, 3) := by decide +kernel
theorem dX6_keeping_4 : decode cX6_keeping 4 = .ok (.iload_n 2, 1) := by decide +kernel
theorem dX6_keeping_5 : decode cX6_keeping 5 = .ok (.bipush 8, 2) := by decide +kernel
theorem dX6_keeping_7 : decode cX6_keeping 7 = .ok (.if_icmp .lt 5, 3) := by decide +kernel
theorem dX6_keeping_10 : decode cX6_keeping 10 = .ok (.iconst 0, 1) := by decide +kernel
theorem dX6_keeping_11 : decode cX6_keeping 11 = .ok (.ireturn, 1) := by decide +kernel
theorem dX6_keeping_12 : decode cX6_keeping 12 = .ok (.aload_n 0, 1) := by decide +kernel
theorem dX6_keeping_13 : decode cX6_keeping 13 = .ok (.getfield 18, 3) := by decide +kernel
theorem dX6_keeping_16 : decode cX6_keeping 16 = .ok (.iload_n 1, 1) := by decide +kernel
theorem dX6_keeping_17 : decode cX6_keeping 17 = .ok (.invokevirtual 117, 3) := by decide +kernel
theorem dX6_keeping_20 : decode cX6_keeping 20 = .ok (.istore_n 3, 1) := by decide +kernel
theorem dX6_keeping_21 : decode cX6_keeping 21 = .ok (.iload_n 3, 1) := by decide +kernel
theorem dX6_keeping_22 : decode cX6_keeping 22 = .ok (.ifCond .eq 5, 3) := by decide +kernel
theorem dX6_keeping_25 : decode cX6_keeping 25 = .ok (.iload_n 3, 1) := by decide +kernel
theorem dX6_keeping_26 : decode cX6_keeping 26 = .ok (.ireturn, 1) := by decide +kernel
theorem dX6_keeping_27 : decode cX6_keeping 27 = .ok (.iload_n 2, 1) := by decide +kernel
theorem dX6_keeping_28 : decode cX6_keeping 28 = .ok (.bipush 8, 2) := by decide +kernel
theorem dX6_keeping_30 : decode cX6_keeping 30 = .ok (.imul, 1) := by decide +kernel
theorem dX6_keeping_31 : decode cX6_keeping 31 = .ok (.istore 4, 2) := by decide +kernel
theorem dX6_keeping_33 : decode cX6_keeping 33 = .ok (.iconst 0, 1) := by decide +kernel
theorem dX6_keeping_34 : decode cX6_keeping 34 = .ok (.istore 5, 2) := by decide +kernel
theorem dX6_keeping_36 : decode cX6_keeping 36 = .ok (.iload 5, 2) := by decide +kernel
theorem dX6_keeping_38 : decode cX6_keeping 38 = .ok (.aload_n 0, 1) := by decide +kernel
theorem dX6_keeping_39 : decode cX6_keeping 39 = .ok (.getfield 18, 3) := by decide +kernel
theorem dX6_keeping_42 : decode cX6_keeping 42 = .ok (.getfield 72, 3) := by decide +kernel
theorem dX6_keeping_45 : decode cX6_keeping 45 = .ok (.if_icmp .ge 46, 3) := by decide +kernel
theorem dX6_keeping_48 : decode cX6_keeping 48 = .ok (.iload_n 1, 1) := by decide +kernel
theorem dX6_keeping_49 : decode cX6_keeping 49 = .ok (.iload 5, 2) := by decide +kernel
theorem dX6_keeping_51 : decode cX6_keeping 51 = .ok (.invokestatic 78, 3) := by decide +kernel
theorem dX6_keeping_54 : decode cX6_keeping 54 = .ok (.iconst 1, 1) := by decide +kernel
theorem dX6_keeping_55 : decode cX6_keeping 55 = .ok (.if_icmp .ne 30, 3) := by decide +kernel
theorem dX6_keeping_58 : decode cX6_keeping 58 = .ok (.aload_n 0, 1) := by decide +kernel
theorem dX6_keeping_59 : decode cX6_keeping 59 = .ok (.getfield 15, 3) := by decide +kernel
theorem dX6_keeping_62 : decode cX6_keeping 62 = .ok (.iload 4, 2) := by decide +kernel
theorem dX6_keeping_64 : decode cX6_keeping 64 = .ok (.iload 5, 2) := by decide +kernel
theorem dX6_keeping_66 : decode cX6_keeping 66 = .ok (.iadd, 1) := by decide +kernel
theorem dX6_keeping_67 : decode cX6_keeping 67 = .ok (.aload_n 0, 1) := by decide +kernel
theorem dX6_keeping_68 : decode cX6_keeping 68 = .ok (.aload_n 0, 1) := by decide +kernel
theorem dX6_keeping_69 : decode cX6_keeping 69 = .ok (.getfield 18, 3) := by decide +kernel
theorem dX6_keeping_72 : decode cX6_keeping 72 = .ok (.iload 5, 2) := by decide +kernel
theorem dX6_keeping_74 : decode cX6_keeping 74 = .ok (.iload_n 1, 1) := by decide +kernel
theorem dX6_keeping_75 : decode cX6_keeping 75 = .ok (.invokevirtual 81, 3) := by decide +kernel
theorem dX6_keeping_78 : decode cX6_keeping 78 = .ok (.iload_n 2, 1) := by decide +kernel
theorem dX6_keeping_79 : decode cX6_keeping 79 = .ok (.iconst 1, 1) := by decide +kernel
theorem dX6_keeping_80 : decode cX6_keeping 80 = .ok (.iadd, 1) := by decide +kernel
theorem dX6_keeping_81 : decode cX6_keeping 81 = .ok (.invokevirtual 63, 3) := by decide +kernel
theorem dX6_keeping_84 : decode cX6_keeping 84 = .ok (.iastore, 1) := by decide +kernel
theorem dX6_keeping_85 : decode cX6_keeping 85 = .ok (.iinc 5 1, 3) := by decide +kernel
theorem dX6_keeping_88 : decode cX6_keeping 88 = .ok (.goto (-52), 3) := by decide +kernel
theorem dX6_keeping_91 : decode cX6_keeping 91 = .ok (.aload_n 0, 1) := by decide +kernel
theorem dX6_keeping_92 : decode cX6_keeping 92 = .ok (.iload 4, 2) := by decide +kernel
theorem dX6_keeping_94 : decode cX6_keeping 94 = .ok (.iload_n 1, 1) := by decide +kernel
theorem dX6_keeping_95 : decode cX6_keeping 95 = .ok (.invokevirtual 84, 3) := by decide +kernel
theorem dX6_keeping_98 : decode cX6_keeping 98 = .ok (.aload_n 0, 1) := by decide +kernel
theorem dX6_keeping_99 : decode cX6_keeping 99 = .ok (.iload 4, 2) := by decide +kernel
theorem dX6_keeping_101 : decode cX6_keeping 101 = .ok (.iload_n 1, 1) := by decide +kernel
theorem dX6_keeping_102 : decode cX6_keeping 102 = .ok (.invokevirtual 88, 3) := by decide +kernel
theorem dX6_keeping_105 : decode cX6_keeping 105 = .ok (.ireturn, 1) := by decide +kernel
theorem dX6_isKeepingSet_0 : decode cX6_isKeepingSet 0 = .ok (.iconst 0, 1) := by decide +kernel
theorem dX6_isKeepingSet_1 : decode cX6_isKeepingSet 1 = .ok (.istore_n 3, 1) := by decide +kernel
theorem dX6_isKeepingSet_2 : decode cX6_isKeepingSet 2 = .ok (.iload_n 3, 1) := by decide +kernel
theorem dX6_isKeepingSet_3 : decode cX6_isKeepingSet 3 = .ok (.aload_n 0, 1) := by decide +kernel
theorem dX6_isKeepingSet_4 : decode cX6_isKeepingSet 4 = .ok (.getfield 18, 3) := by decide +kernel
theorem dX6_isKeepingSet_7 : decode cX6_isKeepingSet 7 = .ok (.getfield 72, 3) := by decide +kernel
theorem dX6_isKeepingSet_10 : decode cX6_isKeepingSet 10 = .ok (.if_icmp .ge 41, 3) := by decide +kernel
theorem dX6_isKeepingSet_13 : decode cX6_isKeepingSet 13 = .ok (.iload_n 1, 1) := by decide +kernel
theorem dX6_isKeepingSet_14 : decode cX6_isKeepingSet 14 = .ok (.iload_n 3, 1) := by decide +kernel
theorem dX6_isKeepingSet_15 : decode cX6_isKeepingSet 15 = .ok (.invokestatic 78, 3) := by decide +kernel
theorem dX6_isKeepingSet_18 : decode cX6_isKeepingSet 18 = .ok (.iconst 1, 1) := by decide +kernel
theorem dX6_isKeepingSet_19 : decode cX6_isKeepingSet 19 = .ok (.if_icmp .ne 26, 3) := by decide +kernel
theorem dX6_isKeepingSet_22 : decode cX6_isKeepingSet 22 = .ok (.aload_n 0, 1) := by decide +kernel
theorem dX6_isKeepingSet_23 : decode cX6_isKeepingSet 23 = .ok (.aload_n 0, 1) := by decide +kernel
theorem dX6_isKeepingSet_24 : decode cX6_isKeepingSet 24 = .ok (.getfield 18, 3) := by decide +kernel
theorem dX6_isKeepingSet_27 : decode cX6_isKeepingSet 27 = .ok (.iload_n 3, 1) := by decide +kernel
theorem dX6_isKeepingSet_28 : decode cX6_isKeepingSet 28 = .ok (.iload_n 2, 1) := by decide +kernel
theorem dX6_isKeepingSet_29 : decode cX6_isKeepingSet 29 = .ok (.invokevirtual 81, 3) := by decide +kernel
theorem dX6_isKeepingSet_32 : decode cX6_isKeepingSet 32 = .ok (.iconst 0, 1) := by decide +kernel
theorem dX6_isKeepingSet_33 : decode cX6_isKeepingSet 33 = .ok (.invokevirtual 63, 3) := by decide +kernel
theorem dX6_isKeepingSet_36 : decode cX6_isKeepingSet 36 = .ok (.iload_n 1, 1) := by decide +kernel
theorem dX6_isKeepingSet_37 : decode cX6_isKeepingSet 37 = .ok (.iconst (-1), 1) := by decide +kernel
theorem dX6_isKeepingSet_38 : decode cX6_isKeepingSet 38 = .ok (.ixor, 1) := by decide +kernel
theorem dX6_isKeepingSet_39 : decode cX6_isKeepingSet 39 = .ok (.iand, 1) := by decide +kernel
theorem dX6_isKeepingSet_40 : decode cX6_isKeepingSet 40 = .ok (.ifCond .eq 5, 3) := by decide +kernel
theorem dX6_isKeepingSet_43 : decode cX6_isKeepingSet 43 = .ok (.iconst 0, 1) := by decide +kernel
theorem dX6_isKeepingSet_44 : decode cX6_isKeepingSet 44 = .ok (.ireturn, 1) := by decide +kernel
theorem dX6_isKeepingSet_45 : decode cX6_isKeepingSet 45 = .ok (.iinc 3 1, 3) := by decide +kernel
theorem dX6_isKeepingSet_48 : decode cX6_isKeepingSet 48 = .ok (.goto (-46), 3) := by decide +kernel
theorem dX6_isKeepingSet_51 : decode cX6_isKeepingSet 51 = .ok (.iload_n 1, 1) := by decide +kernel
theorem dX6_isKeepingSet_52 : decode cX6_isKeepingSet 52 = .ok (.ifCond .eq 7, 3) := by decide +kernel
theorem dX6_isKeepingSet_55 : decode cX6_isKeepingSet 55 = .ok (.iconst 1, 1) := by decide +kernel
theorem dX6_isKeepingSet_56 : decode cX6_isKeepingSet 56 = .ok (.goto 4, 3) := by decide +kernel
theorem dX6_isKeepingSet_59 : decode cX6_isKeepingSet 59 = .ok (.iconst 0, 1) := by decide +kernel
theorem dX6_isKeepingSet_60 : decode cX6_isKeepingSet 60 = .ok (.ireturn, 1) := by decide +kernel
theorem dX6_closeNeeds_0 : decode cX6_closeNeeds 0 = .ok (.iconst 0, 1) := by decide +kernel
theorem dX6_closeNeeds_1 : decode cX6_closeNeeds 1 = .ok (.istore_n 3, 1) := by decide +kernel
theorem dX6_closeNeeds_2 : decode cX6_closeNeeds 2 = .ok (.iload_n 3, 1) := by decide +kernel
theorem dX6_closeNeeds_3 : decode cX6_closeNeeds 3 = .ok (.aload_n 0, 1) := by decide +kernel
theorem dX6_closeNeeds_4 : decode cX6_closeNeeds 4 = .ok (.getfield 18, 3) := by decide +kernel
theorem dX6_closeNeeds_7 : decode cX6_closeNeeds 7 = .ok (.getfield 72, 3) := by decide +kernel
theorem dX6_closeNeeds_10 : decode cX6_closeNeeds 10 = .ok (.if_icmp .ge 77, 3) := by decide +kernel
theorem dX6_closeNeeds_13 : decode cX6_closeNeeds 13 = .ok (.iconst 0, 1) := by decide +kernel
theorem dX6_closeNeeds_14 : decode cX6_closeNeeds 14 = .ok (.istore 4, 2) := by decide +kernel
theorem dX6_closeNeeds_16 : decode cX6_closeNeeds 16 = .ok (.iload 4, 2) := by decide +kernel
theorem dX6_closeNeeds_18 : decode cX6_closeNeeds 18 = .ok (.aload_n 0, 1) := by decide +kernel
theorem dX6_closeNeeds_19 : decode cX6_closeNeeds 19 = .ok (.getfield 18, 3) := by decide +kernel
theorem dX6_closeNeeds_22 : decode cX6_closeNeeds 22 = .ok (.getfield 72, 3) := by decide +kernel
theorem dX6_closeNeeds_25 : decode cX6_closeNeeds 25 = .ok (.if_icmp .ge 56, 3) := by decide +kernel
theorem dX6_closeNeeds_28 : decode cX6_closeNeeds 28 = .ok (.iload_n 2, 1) := by decide +kernel
theorem dX6_closeNeeds_29 : decode cX6_closeNeeds 29 = .ok (.iload 4, 2) := by decide +kernel
theorem dX6_closeNeeds_31 : decode cX6_closeNeeds 31 = .ok (.invokestatic 78, 3) := by decide +kernel
theorem dX6_closeNeeds_34 : decode cX6_closeNeeds 34 = .ok (.iconst 1, 1) := by decide +kernel
theorem dX6_closeNeeds_35 : decode cX6_closeNeeds 35 = .ok (.if_icmp .ne 40, 3) := by decide +kernel
theorem dX6_closeNeeds_38 : decode cX6_closeNeeds 38 = .ok (.aload_n 0, 1) := by decide +kernel
theorem dX6_closeNeeds_39 : decode cX6_closeNeeds 39 = .ok (.getfield 15, 3) := by decide +kernel
theorem dX6_closeNeeds_42 : decode cX6_closeNeeds 42 = .ok (.iload_n 1, 1) := by decide +kernel
theorem dX6_closeNeeds_43 : decode cX6_closeNeeds 43 = .ok (.iload 4, 2) := by decide +kernel
theorem dX6_closeNeeds_45 : decode cX6_closeNeeds 45 = .ok (.iadd, 1) := by decide +kernel
theorem dX6_closeNeeds_46 : decode cX6_closeNeeds 46 = .ok (.iaload, 1) := by decide +kernel
theorem dX6_closeNeeds_47 : decode cX6_closeNeeds 47 = .ok (.iload_n 3, 1) := by decide +kernel
theorem dX6_closeNeeds_48 : decode cX6_closeNeeds 48 = .ok (.invokestatic 78, 3) := by decide +kernel
theorem dX6_closeNeeds_51 : decode cX6_closeNeeds 51 = .ok (.iconst 1, 1) := by decide +kernel
theorem dX6_closeNeeds_52 : decode cX6_closeNeeds 52 = .ok (.if_icmp .ne 23, 3) := by decide +kernel
theorem dX6_closeNeeds_55 : decode cX6_closeNeeds 55 = .ok (.aload_n 0, 1) := by decide +kernel
theorem dX6_closeNeeds_56 : decode cX6_closeNeeds 56 = .ok (.getfield 15, 3) := by decide +kernel
theorem dX6_closeNeeds_59 : decode cX6_closeNeeds 59 = .ok (.iload_n 1, 1) := by decide +kernel
theorem dX6_closeNeeds_60 : decode cX6_closeNeeds 60 = .ok (.iload 4, 2) := by decide +kernel
theorem dX6_closeNeeds_62 : decode cX6_closeNeeds 62 = .ok (.iadd, 1) := by decide +kernel
theorem dX6_closeNeeds_63 : decode cX6_closeNeeds 63 = .ok (.dup2, 1) := by decide +kernel
theorem dX6_closeNeeds_64 : decode cX6_closeNeeds 64 = .ok (.iaload, 1) := by decide +kernel
theorem dX6_closeNeeds_65 : decode cX6_closeNeeds 65 = .ok (.aload_n 0, 1) := by decide +kernel
theorem dX6_closeNeeds_66 : decode cX6_closeNeeds 66 = .ok (.getfield 15, 3) := by decide +kernel
theorem dX6_closeNeeds_69 : decode cX6_closeNeeds 69 = .ok (.iload_n 1, 1) := by decide +kernel
theorem dX6_closeNeeds_70 : decode cX6_closeNeeds 70 = .ok (.iload_n 3, 1) := by decide +kernel
theorem dX6_closeNeeds_71 : decode cX6_closeNeeds 71 = .ok (.iadd, 1) := by decide +kernel
theorem dX6_closeNeeds_72 : decode cX6_closeNeeds 72 = .ok (.iaload, 1) := by decide +kernel
theorem dX6_closeNeeds_73 : decode cX6_closeNeeds 73 = .ok (.ior, 1) := by decide +kernel
theorem dX6_closeNeeds_74 : decode cX6_closeNeeds 74 = .ok (.iastore, 1) := by decide +kernel
theorem dX6_closeNeeds_75 : decode cX6_closeNeeds 75 = .ok (.iinc 4 1, 3) := by decide +kernel
theorem dX6_closeNeeds_78 : decode cX6_closeNeeds 78 = .ok (.goto (-62), 3) := by decide +kernel
theorem dX6_closeNeeds_81 : decode cX6_closeNeeds 81 = .ok (.iinc 3 1, 3) := by decide +kernel
theorem dX6_closeNeeds_84 : decode cX6_closeNeeds 84 = .ok (.goto (-82), 3) := by decide +kernel
theorem dX6_closeNeeds_87 : decode cX6_closeNeeds 87 = .ok (.return_, 1) := by decide +kernel
theorem dX6_leastClosed_0 : decode cX6_leastClosed 0 = .ok (.iload_n 2, 1) := by decide +kernel
theorem dX6_leastClosed_1 : decode cX6_leastClosed 1 = .ok (.istore_n 3, 1) := by decide +kernel
theorem dX6_leastClosed_2 : decode cX6_leastClosed 2 = .ok (.iconst 0, 1) := by decide +kernel
theorem dX6_leastClosed_3 : decode cX6_leastClosed 3 = .ok (.istore 4, 2) := by decide +kernel
theorem dX6_leastClosed_5 : decode cX6_leastClosed 5 = .ok (.iload 4, 2) := by decide +kernel
theorem dX6_leastClosed_7 : decode cX6_leastClosed 7 = .ok (.aload_n 0, 1) := by decide +kernel
theorem dX6_leastClosed_8 : decode cX6_leastClosed 8 = .ok (.getfield 18, 3) := by decide +kernel
theorem dX6_leastClosed_11 : decode cX6_leastClosed 11 = .ok (.getfield 72, 3) := by decide +kernel
theorem dX6_leastClosed_14 : decode cX6_leastClosed 14 = .ok (.if_icmp .ge 84, 3) := by decide +kernel
theorem dX6_leastClosed_17 : decode cX6_leastClosed 17 = .ok (.iconst 0, 1) := by decide +kernel
theorem dX6_leastClosed_18 : decode cX6_leastClosed 18 = .ok (.istore 5, 2) := by decide +kernel
theorem dX6_leastClosed_20 : decode cX6_leastClosed 20 = .ok (.iload 5, 2) := by decide +kernel
theorem dX6_leastClosed_22 : decode cX6_leastClosed 22 = .ok (.aload_n 0, 1) := by decide +kernel
theorem dX6_leastClosed_23 : decode cX6_leastClosed 23 = .ok (.getfield 18, 3) := by decide +kernel
theorem dX6_leastClosed_26 : decode cX6_leastClosed 26 = .ok (.getfield 72, 3) := by decide +kernel
theorem dX6_leastClosed_29 : decode cX6_leastClosed 29 = .ok (.if_icmp .ge 63, 3) := by decide +kernel
theorem dX6_leastClosed_32 : decode cX6_leastClosed 32 = .ok (.iload_n 2, 1) := by decide +kernel
theorem dX6_leastClosed_33 : decode cX6_leastClosed 33 = .ok (.iload 4, 2) := by decide +kernel
theorem dX6_leastClosed_35 : decode cX6_leastClosed 35 = .ok (.invokestatic 78, 3) := by decide +kernel
theorem dX6_leastClosed_38 : decode cX6_leastClosed 38 = .ok (.iconst 1, 1) := by decide +kernel
theorem dX6_leastClosed_39 : decode cX6_leastClosed 39 = .ok (.if_icmp .ne 47, 3) := by decide +kernel
theorem dX6_leastClosed_42 : decode cX6_leastClosed 42 = .ok (.aload_n 0, 1) := by decide +kernel
theorem dX6_leastClosed_43 : decode cX6_leastClosed 43 = .ok (.getfield 15, 3) := by decide +kernel
theorem dX6_leastClosed_46 : decode cX6_leastClosed 46 = .ok (.iload_n 1, 1) := by decide +kernel
theorem dX6_leastClosed_47 : decode cX6_leastClosed 47 = .ok (.iload 4, 2) := by decide +kernel
theorem dX6_leastClosed_49 : decode cX6_leastClosed 49 = .ok (.iadd, 1) := by decide +kernel
theorem dX6_leastClosed_50 : decode cX6_leastClosed 50 = .ok (.iaload, 1) := by decide +kernel
theorem dX6_leastClosed_51 : decode cX6_leastClosed 51 = .ok (.iload 5, 2) := by decide +kernel
theorem dX6_leastClosed_53 : decode cX6_leastClosed 53 = .ok (.invokestatic 78, 3) := by decide +kernel
theorem dX6_leastClosed_56 : decode cX6_leastClosed 56 = .ok (.iconst 1, 1) := by decide +kernel
theorem dX6_leastClosed_57 : decode cX6_leastClosed 57 = .ok (.if_icmp .ne 29, 3) := by decide +kernel
theorem dX6_leastClosed_60 : decode cX6_leastClosed 60 = .ok (.aload_n 0, 1) := by decide +kernel
theorem dX6_leastClosed_61 : decode cX6_leastClosed 61 = .ok (.getfield 15, 3) := by decide +kernel
theorem dX6_leastClosed_64 : decode cX6_leastClosed 64 = .ok (.iload_n 1, 1) := by decide +kernel
theorem dX6_leastClosed_65 : decode cX6_leastClosed 65 = .ok (.iload 5, 2) := by decide +kernel
theorem dX6_leastClosed_67 : decode cX6_leastClosed 67 = .ok (.iadd, 1) := by decide +kernel
theorem dX6_leastClosed_68 : decode cX6_leastClosed 68 = .ok (.iaload, 1) := by decide +kernel
theorem dX6_leastClosed_69 : decode cX6_leastClosed 69 = .ok (.iload 4, 2) := by decide +kernel
theorem dX6_leastClosed_71 : decode cX6_leastClosed 71 = .ok (.invokestatic 78, 3) := by decide +kernel
theorem dX6_leastClosed_74 : decode cX6_leastClosed 74 = .ok (.ifCond .ne 12, 3) := by decide +kernel
theorem dX6_leastClosed_77 : decode cX6_leastClosed 77 = .ok (.iload_n 3, 1) := by decide +kernel
theorem dX6_leastClosed_78 : decode cX6_leastClosed 78 = .ok (.iconst 1, 1) := by decide +kernel
theorem dX6_leastClosed_79 : decode cX6_leastClosed 79 = .ok (.iload 4, 2) := by decide +kernel
theorem dX6_leastClosed_81 : decode cX6_leastClosed 81 = .ok (.ishl, 1) := by decide +kernel
theorem dX6_leastClosed_82 : decode cX6_leastClosed 82 = .ok (.iconst (-1), 1) := by decide +kernel
theorem dX6_leastClosed_83 : decode cX6_leastClosed 83 = .ok (.ixor, 1) := by decide +kernel
theorem dX6_leastClosed_84 : decode cX6_leastClosed 84 = .ok (.iand, 1) := by decide +kernel
theorem dX6_leastClosed_85 : decode cX6_leastClosed 85 = .ok (.istore_n 3, 1) := by decide +kernel
theorem dX6_leastClosed_86 : decode cX6_leastClosed 86 = .ok (.iinc 5 1, 3) := by decide +kernel
theorem dX6_leastClosed_89 : decode cX6_leastClosed 89 = .ok (.goto (-69), 3) := by decide +kernel
theorem dX6_leastClosed_92 : decode cX6_leastClosed 92 = .ok (.iinc 4 1, 3) := by decide +kernel
theorem dX6_leastClosed_95 : decode cX6_leastClosed 95 = .ok (.goto (-90), 3) := by decide +kernel
theorem dX6_leastClosed_98 : decode cX6_leastClosed 98 = .ok (.iload_n 3, 1) := by decide +kernel
theorem dX6_leastClosed_99 : decode cX6_leastClosed 99 = .ok (.ireturn, 1) := by decide +kernel
theorem dX7_init_0 : decode cX7_init 0 = .ok (.aload_n 0, 1) := by decide +kernel
theorem dX7_init_1 : decode cX7_init 1 = .ok (.invokespecial 3, 3) := by decide +kernel
theorem dX7_init_4 : decode cX7_init 4 = .ok (.aload_n 0, 1) := by decide +kernel
theorem dX7_init_5 : decode cX7_init 5 = .ok (.sipush 300, 3) := by decide +kernel
theorem dX7_init_8 : decode cX7_init 8 = .ok (.newarray .char, 2) := by decide +kernel
theorem dX7_init_10 : decode cX7_init 10 = .ok (.putfield 9, 3) := by decide +kernel
theorem dX7_init_13 : decode cX7_init 13 = .ok (.return_, 1) := by decide +kernel
theorem dX7_addFour_0 : decode cX7_addFour 0 = .ok (.aload_n 0, 1) := by decide +kernel
theorem dX7_addFour_1 : decode cX7_addFour 1 = .ok (.getfield 15, 3) := by decide +kernel
theorem dX7_addFour_4 : decode cX7_addFour 4 = .ok (.iconst 4, 1) := by decide +kernel
theorem dX7_addFour_5 : decode cX7_addFour 5 = .ok (.iadd, 1) := by decide +kernel
theorem dX7_addFour_6 : decode cX7_addFour 6 = .ok (.sipush 300, 3) := by decide +kernel
theorem dX7_addFour_9 : decode cX7_addFour 9 = .ok (.if_icmp .le 5, 3) := by decide +kernel
theorem dX7_addFour_12 : decode cX7_addFour 12 = .ok (.iconst (-1), 1) := by decide +kernel
theorem dX7_addFour_13 : decode cX7_addFour 13 = .ok (.ireturn, 1) := by decide +kernel
theorem dX7_addFour_14 : decode cX7_addFour 14 = .ok (.bipush 24, 2) := by decide +kernel
theorem dX7_addFour_16 : decode cX7_addFour 16 = .ok (.istore_n 2, 1) := by decide +kernel
theorem dX7_addFour_17 : decode cX7_addFour 17 = .ok (.iload_n 2, 1) := by decide +kernel
theorem dX7_addFour_18 : decode cX7_addFour 18 = .ok (.ifCond .lt 36, 3) := by decide +kernel
theorem dX7_addFour_21 : decode cX7_addFour 21 = .ok (.aload_n 0, 1) := by decide +kernel
theorem dX7_addFour_22 : decode cX7_addFour 22 = .ok (.getfield 9, 3) := by decide +kernel
theorem dX7_addFour_25 : decode cX7_addFour 25 = .ok (.aload_n 0, 1) := by decide +kernel
theorem dX7_addFour_26 : decode cX7_addFour 26 = .ok (.getfield 15, 3) := by decide +kernel
theorem dX7_addFour_29 : decode cX7_addFour 29 = .ok (.iload_n 1, 1) := by decide +kernel
theorem dX7_addFour_30 : decode cX7_addFour 30 = .ok (.iload_n 2, 1) := by decide +kernel
theorem dX7_addFour_31 : decode cX7_addFour 31 = .ok (.ishr, 1) := by decide +kernel
theorem dX7_addFour_32 : decode cX7_addFour 32 = .ok (.sipush 255, 3) := by decide +kernel
theorem dX7_addFour_35 : decode cX7_addFour 35 = .ok (.iand, 1) := by decide +kernel
theorem dX7_addFour_36 : decode cX7_addFour 36 = .ok (.i2c, 1) := by decide +kernel
theorem dX7_addFour_37 : decode cX7_addFour 37 = .ok (.castore, 1) := by decide +kernel
theorem dX7_addFour_38 : decode cX7_addFour 38 = .ok (.aload_n 0, 1) := by decide +kernel
theorem dX7_addFour_39 : decode cX7_addFour 39 = .ok (.dup, 1) := by decide +kernel
theorem dX7_addFour_40 : decode cX7_addFour 40 = .ok (.getfield 15, 3) := by decide +kernel
theorem dX7_addFour_43 : decode cX7_addFour 43 = .ok (.iconst 1, 1) := by decide +kernel
theorem dX7_addFour_44 : decode cX7_addFour 44 = .ok (.iadd, 1) := by decide +kernel
theorem dX7_addFour_45 : decode cX7_addFour 45 = .ok (.putfield 15, 3) := by decide +kernel
theorem dX7_addFour_48 : decode cX7_addFour 48 = .ok (.iinc 2 (-8), 3) := by decide +kernel
theorem dX7_addFour_51 : decode cX7_addFour 51 = .ok (.goto (-34), 3) := by decide +kernel
theorem dX7_addFour_54 : decode cX7_addFour 54 = .ok (.aload_n 0, 1) := by decide +kernel
theorem dX7_addFour_55 : decode cX7_addFour 55 = .ok (.getfield 15, 3) := by decide +kernel
theorem dX7_addFour_58 : decode cX7_addFour 58 = .ok (.ireturn, 1) := by decide +kernel
theorem dX7_cutTo_0 : decode cX7_cutTo 0 = .ok (.iload_n 1, 1) := by decide +kernel
theorem dX7_cutTo_1 : decode cX7_cutTo 1 = .ok (.ifCond .lt 11, 3) := by decide +kernel
theorem dX7_cutTo_4 : decode cX7_cutTo 4 = .ok (.iload_n 1, 1) := by decide +kernel
theorem dX7_cutTo_5 : decode cX7_cutTo 5 = .ok (.aload_n 0, 1) := by decide +kernel
theorem dX7_cutTo_6 : decode cX7_cutTo 6 = .ok (.getfield 15, 3) := by decide +kernel
theorem dX7_cutTo_9 : decode cX7_cutTo 9 = .ok (.if_icmp .le 5, 3) := by decide +kernel
theorem dX7_cutTo_12 : decode cX7_cutTo 12 = .ok (.iconst 0, 1) := by decide +kernel
theorem dX7_cutTo_13 : decode cX7_cutTo 13 = .ok (.ireturn, 1) := by decide +kernel
theorem dX7_cutTo_14 : decode cX7_cutTo 14 = .ok (.aload_n 0, 1) := by decide +kernel
theorem dX7_cutTo_15 : decode cX7_cutTo 15 = .ok (.iload_n 1, 1) := by decide +kernel
theorem dX7_cutTo_16 : decode cX7_cutTo 16 = .ok (.putfield 15, 3) := by decide +kernel
theorem dX7_cutTo_19 : decode cX7_cutTo 19 = .ok (.iconst 1, 1) := by decide +kernel
theorem dX7_cutTo_20 : decode cX7_cutTo 20 = .ok (.ireturn, 1) := by decide +kernel
theorem dX7_next_0 : decode cX7_next 0 = .ok (.aload_n 0, 1) := by decide +kernel
theorem dX7_next_1 : decode cX7_next 1 = .ok (.getfield 19, 3) := by decide +kernel
theorem dX7_next_4 : decode cX7_next 4 = .ok (.aload_n 0, 1) := by decide +kernel
theorem dX7_next_5 : decode cX7_next 5 = .ok (.getfield 15, 3) := by decide +kernel
theorem dX7_next_8 : decode cX7_next 8 = .ok (.if_icmp .ge 30, 3) := by decide +kernel
theorem dX7_next_11 : decode cX7_next 11 = .ok (.aload_n 0, 1) := by decide +kernel
theorem dX7_next_12 : decode cX7_next 12 = .ok (.getfield 9, 3) := by decide +kernel
theorem dX7_next_15 : decode cX7_next 15 = .ok (.aload_n 0, 1) := by decide +kernel
theorem dX7_next_16 : decode cX7_next 16 = .ok (.getfield 19, 3) := by decide +kernel
theorem dX7_next_19 : decode cX7_next 19 = .ok (.caload, 1) := by decide +kernel
theorem dX7_next_20 : decode cX7_next 20 = .ok (.bipush 32, 2) := by decide +kernel
theorem dX7_next_22 : decode cX7_next 22 = .ok (.if_icmp .ne 16, 3) := by decide +kernel
theorem dX7_next_25 : decode cX7_next 25 = .ok (.aload_n 0, 1) := by decide +kernel
theorem dX7_next_26 : decode cX7_next 26 = .ok (.dup, 1) := by decide +kernel
theorem dX7_next_27 : decode cX7_next 27 = .ok (.getfield 19, 3) := by decide +kernel
theorem dX7_next_30 : decode cX7_next 30 = .ok (.iconst 1, 1) := by decide +kernel
theorem dX7_next_31 : decode cX7_next 31 = .ok (.iadd, 1) := by decide +kernel
theorem dX7_next_32 : decode cX7_next 32 = .ok (.putfield 19, 3) := by decide +kernel
theorem dX7_next_35 : decode cX7_next 35 = .ok (.goto (-35), 3) := by decide +kernel
theorem dX7_next_38 : decode cX7_next 38 = .ok (.aload_n 0, 1) := by decide +kernel
theorem dX7_next_39 : decode cX7_next 39 = .ok (.getfield 19, 3) := by decide +kernel
theorem dX7_next_42 : decode cX7_next 42 = .ok (.aload_n 0, 1) := by decide +kernel
theorem dX7_next_43 : decode cX7_next 43 = .ok (.getfield 15, 3) := by decide +kernel
theorem dX7_next_46 : decode cX7_next 46 = .ok (.if_icmp .ge 15, 3) := by decide +kernel
theorem dX7_next_49 : decode cX7_next 49 = .ok (.aload_n 0, 1) := by decide +kernel
theorem dX7_next_50 : decode cX7_next 50 = .ok (.getfield 9, 3) := by decide +kernel
theorem dX7_next_53 : decode cX7_next 53 = .ok (.aload_n 0, 1) := by decide +kernel
theorem dX7_next_54 : decode cX7_next 54 = .ok (.getfield 19, 3) := by decide +kernel
theorem dX7_next_57 : decode cX7_next 57 = .ok (.caload, 1) := by decide +kernel
theorem dX7_next_58 : decode cX7_next 58 = .ok (.goto 4, 3) := by decide +kernel
theorem dX7_next_61 : decode cX7_next 61 = .ok (.iconst (-1), 1) := by decide +kernel
theorem dX7_next_62 : decode cX7_next 62 = .ok (.ireturn, 1) := by decide +kernel
theorem dX7_nextLetter_0 : decode cX7_nextLetter 0 = .ok (.aload_n 0, 1) := by decide +kernel
theorem dX7_nextLetter_1 : decode cX7_nextLetter 1 = .ok (.invokevirtual 22, 3) := by decide +kernel
theorem dX7_nextLetter_4 : decode cX7_nextLetter 4 = .ok (.istore_n 1, 1) := by decide +kernel
theorem dX7_nextLetter_5 : decode cX7_nextLetter 5 = .ok (.iload_n 1, 1) := by decide +kernel
theorem dX7_nextLetter_6 : decode cX7_nextLetter 6 = .ok (.bipush 97, 2) := by decide +kernel
theorem dX7_nextLetter_8 : decode cX7_nextLetter 8 = .ok (.if_icmp .lt 16, 3) := by decide +kernel
theorem dX7_nextLetter_11 : decode cX7_nextLetter 11 = .ok (.iload_n 1, 1) := by decide +kernel
theorem dX7_nextLetter_12 : decode cX7_nextLetter 12 = .ok (.bipush 105, 2) := by decide +kernel
theorem dX7_nextLetter_14 : decode cX7_nextLetter 14 = .ok (.if_icmp .ge 10, 3) := by decide +kernel
theorem dX7_nextLetter_17 : decode cX7_nextLetter 17 = .ok (.iload_n 1, 1) := by decide +kernel
theorem dX7_nextLetter_18 : decode cX7_nextLetter 18 = .ok (.bipush 97, 2) := by decide +kernel
theorem dX7_nextLetter_20 : decode cX7_nextLetter 20 = .ok (.isub, 1) := by decide +kernel
theorem dX7_nextLetter_21 : decode cX7_nextLetter 21 = .ok (.goto 4, 3) := by decide +kernel
theorem dX7_nextLetter_24 : decode cX7_nextLetter 24 = .ok (.iconst (-1), 1) := by decide +kernel
theorem dX7_nextLetter_25 : decode cX7_nextLetter 25 = .ok (.ireturn, 1) := by decide +kernel
theorem dX7_nextDigit_0 : decode cX7_nextDigit 0 = .ok (.aload_n 0, 1) := by decide +kernel
theorem dX7_nextDigit_1 : decode cX7_nextDigit 1 = .ok (.invokevirtual 22, 3) := by decide +kernel
theorem dX7_nextDigit_4 : decode cX7_nextDigit 4 = .ok (.istore_n 1, 1) := by decide +kernel
theorem dX7_nextDigit_5 : decode cX7_nextDigit 5 = .ok (.iload_n 1, 1) := by decide +kernel
theorem dX7_nextDigit_6 : decode cX7_nextDigit 6 = .ok (.bipush 48, 2) := by decide +kernel
theorem dX7_nextDigit_8 : decode cX7_nextDigit 8 = .ok (.if_icmp .lt 16, 3) := by decide +kernel
theorem dX7_nextDigit_11 : decode cX7_nextDigit 11 = .ok (.iload_n 1, 1) := by decide +kernel
theorem dX7_nextDigit_12 : decode cX7_nextDigit 12 = .ok (.bipush 57, 2) := by decide +kernel
theorem dX7_nextDigit_14 : decode cX7_nextDigit 14 = .ok (.if_icmp .gt 10, 3) := by decide +kernel
theorem dX7_nextDigit_17 : decode cX7_nextDigit 17 = .ok (.iload_n 1, 1) := by decide +kernel
theorem dX7_nextDigit_18 : decode cX7_nextDigit 18 = .ok (.bipush 48, 2) := by decide +kernel
theorem dX7_nextDigit_20 : decode cX7_nextDigit 20 = .ok (.isub, 1) := by decide +kernel
theorem dX7_nextDigit_21 : decode cX7_nextDigit 21 = .ok (.goto 4, 3) := by decide +kernel
theorem dX7_nextDigit_24 : decode cX7_nextDigit 24 = .ok (.iconst (-1), 1) := by decide +kernel
theorem dX7_nextDigit_25 : decode cX7_nextDigit 25 = .ok (.ireturn, 1) := by decide +kernel
theorem dX8_init_0 : decode cX8_init 0 = .ok (.aload_n 0, 1) := by decide +kernel
theorem dX8_init_1 : decode cX8_init 1 = .ok (.invokespecial 3, 3) := by decide +kernel
theorem dX8_init_4 : decode cX8_init 4 = .ok (.aload_n 0, 1) := by decide +kernel
theorem dX8_init_5 : decode cX8_init 5 = .ok (.bipush 8, 2) := by decide +kernel
theorem dX8_init_7 : decode cX8_init 7 = .ok (.newarray .int, 2) := by decide +kernel
theorem dX8_init_9 : decode cX8_init 9 = .ok (.putfield 9, 3) := by decide +kernel
theorem dX8_init_12 : decode cX8_init 12 = .ok (.aload_n 0, 1) := by decide +kernel
theorem dX8_init_13 : decode cX8_init 13 = .ok (.sipush 256, 3) := by decide +kernel
theorem dX8_init_16 : decode cX8_init 16 = .ok (.newarray .int, 2) := by decide +kernel
theorem dX8_init_18 : decode cX8_init 18 = .ok (.putfield 15, 3) := by decide +kernel
theorem dX8_init_21 : decode cX8_init 21 = .ok (.aload_n 0, 1) := by decide +kernel
theorem dX8_init_22 : decode cX8_init 22 = .ok (.aload_n 1, 1) := by decide +kernel
theorem dX8_init_23 : decode cX8_init 23 = .ok (.putfield 18, 3) := by decide +kernel
theorem dX8_init_26 : decode cX8_init 26 = .ok (.return_, 1) := by decide +kernel
theorem dX8_balance_0 : decode cX8_balance 0 = .ok (.aload_n 0, 1) := by decide +kernel
theorem dX8_balance_1 : decode cX8_balance 1 = .ok (.iload_n 1, 1) := by decide +kernel
theorem dX8_balance_2 : decode cX8_balance 2 = .ok (.invokevirtual 22, 3) := by decide +kernel
theorem dX8_balance_5 : decode cX8_balance 5 = .ok (.iconst 1, 1) := by decide +kernel
theorem dX8_balance_6 : decode cX8_balance 6 = .ok (.istore_n 2, 1) := by decide +kernel
theorem dX8_balance_7 : decode cX8_balance 7 = .ok (.iload_n 2, 1) := by decide +kernel
theorem dX8_balance_8 : decode cX8_balance 8 = .ok (.iload_n 1, 1) := by decide +kernel
theorem dX8_balance_9 : decode cX8_balance 9 = .ok (.if_icmp .gt 53, 3) := by decide +kernel
theorem dX8_balance_12 : decode cX8_balance 12 = .ok (.iload_n 2, 1) := by decide +kernel
theorem dX8_balance_13 : decode cX8_balance 13 = .ok (.iload_n 1, 1) := by decide +kernel
theorem dX8_balance_14 : decode cX8_balance 14 = .ok (.iconst (-1), 1) := by decide +kernel
theorem dX8_balance_15 : decode cX8_balance 15 = .ok (.ixor, 1) := by decide +kernel
theorem dX8_balance_16 : decode cX8_balance 16 = .ok (.iand, 1) := by decide +kernel
theorem dX8_balance_17 : decode cX8_balance 17 = .ok (.ifCond .ne 39, 3) := by decide +kernel
theorem dX8_balance_20 : decode cX8_balance 20 = .ok (.iload_n 2, 1) := by decide +kernel
theorem dX8_balance_21 : decode cX8_balance 21 = .ok (.invokestatic 26, 3) := by decide +kernel
theorem dX8_balance_24 : decode cX8_balance 24 = .ok (.iconst 2, 1) := by decide +kernel
theorem dX8_balance_25 : decode cX8_balance 25 = .ok (.irem, 1) := by decide +kernel
theorem dX8_balance_26 : decode cX8_balance 26 = .ok (.iconst 1, 1) := by decide +kernel
theorem dX8_balance_27 : decode cX8_balance 27 = .ok (.if_icmp .ne 29, 3) := by decide +kernel
theorem dX8_balance_30 : decode cX8_balance 30 = .ok (.aload_n 0, 1) := by decide +kernel
theorem dX8_balance_31 : decode cX8_balance 31 = .ok (.iload_n 2, 1) := by decide +kernel
theorem dX8_balance_32 : decode cX8_balance 32 = .ok (.invokevirtual 32, 3) := by decide +kernel
theorem dX8_balance_35 : decode cX8_balance 35 = .ok (.ifCond .eq 21, 3) := by decide +kernel
theorem dX8_balance_38 : decode cX8_balance 38 = .ok (.aload_n 0, 1) := by decide +kernel
theorem dX8_balance_39 : decode cX8_balance 39 = .ok (.iload_n 1, 1) := by decide +kernel
theorem dX8_balance_40 : decode cX8_balance 40 = .ok (.aload_n 0, 1) := by decide +kernel
theorem dX8_balance_41 : decode cX8_balance 41 = .ok (.getfield 9, 3) := by decide +kernel
theorem dX8_balance_44 : decode cX8_balance 44 = .ok (.invokevirtual 36, 3) := by decide +kernel
theorem dX8_balance_47 : decode cX8_balance 47 = .ok (.ifCond .eq 9, 3) := by decide +kernel
theorem dX8_balance_50 : decode cX8_balance 50 = .ok (.aload_n 0, 1) := by decide +kernel
theorem dX8_balance_51 : decode cX8_balance 51 = .ok (.invokevirtual 40, 3) := by decide +kernel
theorem dX8_balance_54 : decode cX8_balance 54 = .ok (.iload_n 2, 1) := by decide +kernel
theorem dX8_balance_55 : decode cX8_balance 55 = .ok (.ireturn, 1) := by decide +kernel
theorem dX8_balance_56 : decode cX8_balance 56 = .ok (.iinc 2 1, 3) := by decide +kernel
theorem dX8_balance_59 : decode cX8_balance 59 = .ok (.goto (-52), 3) := by decide +kernel
theorem dX8_balance_62 : decode cX8_balance 62 = .ok (.iconst 0, 1) := by decide +kernel
theorem dX8_balance_63 : decode cX8_balance 63 = .ok (.ireturn, 1) := by decide +kernel
theorem dX8_findPfaffians_0 : decode cX8_findPfaffians 0 = .ok (.aload_n 0, 1) := by decide +kernel
theorem dX8_findPfaffians_1 : decode cX8_findPfaffians 1 = .ok (.getfield 15, 3) := by decide +kernel
theorem dX8_findPfaffians_4 : decode cX8_findPfaffians 4 = .ok (.iconst 0, 1) := by decide +kernel
theorem dX8_findPfaffians_5 : decode cX8_findPfaffians 5 = .ok (.iconst 1, 1) := by decide +kernel
theorem dX8_findPfaffians_6 : decode cX8_findPfaffians 6 = .ok (.iastore, 1) := by decide +kernel
theorem dX8_findPfaffians_7 : decode cX8_findPfaffians 7 = .ok (.iconst 1, 1) := by decide +kernel
theorem dX8_findPfaffians_8 : decode cX8_findPfaffians 8 = .ok (.istore_n 2, 1) := by decide +kernel
theorem dX8_findPfaffians_9 : decode cX8_findPfaffians 9 = .ok (.iload_n 2, 1) := by decide +kernel
theorem dX8_findPfaffians_10 : decode cX8_findPfaffians 10 = .ok (.iload_n 1, 1) := by decide +kernel
theorem dX8_findPfaffians_11 : decode cX8_findPfaffians 11 = .ok (.if_icmp .gt 37, 3) := by decide +kernel
theorem dX8_findPfaffians_14 : decode cX8_findPfaffians 14 = .ok (.iload_n 2, 1) := by decide +kernel
theorem dX8_findPfaffians_15 : decode cX8_findPfaffians 15 = .ok (.iload_n 1, 1) := by decide +kernel
theorem dX8_findPfaffians_16 : decode cX8_findPfaffians 16 = .ok (.iconst (-1), 1) := by decide +kernel
theorem dX8_findPfaffians_17 : decode cX8_findPfaffians 17 = .ok (.ixor, 1) := by decide +kernel
theorem dX8_findPfaffians_18 : decode cX8_findPfaffians 18 = .ok (.iand, 1) := by decide +kernel
theorem dX8_findPfaffians_19 : decode cX8_findPfaffians 19 = .ok (.ifCond .ne 23, 3) := by decide +kernel
theorem dX8_findPfaffians_22 : decode cX8_findPfaffians 22 = .ok (.iload_n 2, 1) := by decide +kernel
theorem dX8_findPfaffians_23 : decode cX8_findPfaffians 23 = .ok (.invokestatic 26, 3) := by decide +kernel
theorem dX8_findPfaffians_26 : decode cX8_findPfaffians 26 = .ok (.iconst 2, 1) := by decide +kernel
theorem dX8_findPfaffians_27 : decode cX8_findPfaffians 27 = .ok (.irem, 1) := by decide +kernel
theorem dX8_findPfaffians_28 : decode cX8_findPfaffians 28 = .ok (.ifCond .ne 14, 3) := by decide +kernel
theorem dX8_findPfaffians_31 : decode cX8_findPfaffians 31 = .ok (.aload_n 0, 1) := by decide +kernel
theorem dX8_findPfaffians_32 : decode cX8_findPfaffians 32 = .ok (.getfield 15, 3) := by decide +kernel
theorem dX8_findPfaffians_35 : decode cX8_findPfaffians 35 = .ok (.iload_n 2, 1) := by decide +kernel
theorem dX8_findPfaffians_36 : decode cX8_findPfaffians 36 = .ok (.aload_n 0, 1) := by decide +kernel
theorem dX8_findPfaffians_37 : decode cX8_findPfaffians 37 = .ok (.iload_n 2, 1) := by decide +kernel
theorem dX8_findPfaffians_38 : decode cX8_findPfaffians 38 = .ok (.invokevirtual 43, 3) := by decide +kernel
theorem dX8_findPfaffians_41 : decode cX8_findPfaffians 41 = .ok (.iastore, 1) := by decide +kernel
theorem dX8_findPfaffians_42 : decode cX8_findPfaffians 42 = .ok (.iinc 2 1, 3) := by decide +kernel
theorem dX8_findPfaffians_45 : decode cX8_findPfaffians 45 = .ok (.goto (-36), 3) := by decide +kernel
theorem dX8_findPfaffians_48 : decode cX8_findPfaffians 48 = .ok (.return_, 1) := by decide +kernel
theorem dX8_pfaffianOf_0 : decode cX8_pfaffianOf 0 = .ok (.iload_n 1, 1) := by decide +kernel
theorem dX8_pfaffianOf_1 : decode cX8_pfaffianOf 1 = .ok (.invokestatic 46, 3) := by decide +kernel
theorem dX8_pfaffianOf_4 : decode cX8_pfaffianOf 4 = .ok (.istore_n 2, 1) := by decide +kernel
theorem dX8_pfaffianOf_5 : decode cX8_pfaffianOf 5 = .ok (.iload_n 2, 1) := by decide +kernel
theorem dX8_pfaffianOf_6 : decode cX8_pfaffianOf 6 = .ok (.iconst (-1), 1) := by decide +kernel
theorem dX8_pfaffianOf_7 : decode cX8_pfaffianOf 7 = .ok (.if_icmp .ne 5, 3) := by decide +kernel
theorem dX8_pfaffianOf_10 : decode cX8_pfaffianOf 10 = .ok (.iconst 1, 1) := by decide +kernel
theorem dX8_pfaffianOf_11 : decode cX8_pfaffianOf 11 = .ok (.ireturn, 1) := by decide +kernel
theorem dX8_pfaffianOf_12 : decode cX8_pfaffianOf 12 = .ok (.iload_n 1, 1) := by decide +kernel
theorem dX8_pfaffianOf_13 : decode cX8_pfaffianOf 13 = .ok (.iconst 1, 1) := by decide +kernel
theorem dX8_pfaffianOf_14 : decode cX8_pfaffianOf 14 = .ok (.iload_n 2, 1) := by decide +kernel
theorem dX8_pfaffianOf_15 : decode cX8_pfaffianOf 15 = .ok (.ishl, 1) := by decide +kernel
theorem dX8_pfaffianOf_16 : decode cX8_pfaffianOf 16 = .ok (.iconst (-1), 1) := by decide +kernel
theorem dX8_pfaffianOf_17 : decode cX8_pfaffianOf 17 = .ok (.ixor, 1) := by decide +kernel
theorem dX8_pfaffianOf_18 : decode cX8_pfaffianOf 18 = .ok (.iand, 1) := by decide +kernel
theorem dX8_pfaffianOf_19 : decode cX8_pfaffianOf 19 = .ok (.istore_n 3, 1) := by decide +kernel
theorem dX8_pfaffianOf_20 : decode cX8_pfaffianOf 20 = .ok (.iconst 0, 1) := by decide +kernel
theorem dX8_pfaffianOf_21 : decode cX8_pfaffianOf 21 = .ok (.istore 4, 2) := by decide +kernel
theorem dX8_pfaffianOf_23 : decode cX8_pfaffianOf 23 = .ok (.iconst 1, 1) := by decide +kernel
theorem dX8_pfaffianOf_24 : decode cX8_pfaffianOf 24 = .ok (.istore 5, 2) := by decide +kernel
theorem dX8_pfaffianOf_26 : decode cX8_pfaffianOf 26 = .ok (.iload_n 2, 1) := by decide +kernel
theorem dX8_pfaffianOf_27 : decode cX8_pfaffianOf 27 = .ok (.iconst 1, 1) := by decide +kernel
theorem dX8_pfaffianOf_28 : decode cX8_pfaffianOf 28 = .ok (.iadd, 1) := by decide +kernel
theorem dX8_pfaffianOf_29 : decode cX8_pfaffianOf 29 = .ok (.istore 6, 2) := by decide +kernel
theorem dX8_pfaffianOf_31 : decode cX8_pfaffianOf 31 = .ok (.iload 6, 2) := by decide +kernel
theorem dX8_pfaffianOf_33 : decode cX8_pfaffianOf 33 = .ok (.aload_n 0, 1) := by decide +kernel
theorem dX8_pfaffianOf_34 : decode cX8_pfaffianOf 34 = .ok (.getfield 18, 3) := by decide +kernel
theorem dX8_pfaffianOf_37 : decode cX8_pfaffianOf 37 = .ok (.getfield 49, 3) := by decide +kernel
theorem dX8_pfaffianOf_40 : decode cX8_pfaffianOf 40 = .ok (.if_icmp .ge 68, 3) := by decide +kernel
theorem dX8_pfaffianOf_43 : decode cX8_pfaffianOf 43 = .ok (.iload_n 3, 1) := by decide +kernel
theorem dX8_pfaffianOf_44 : decode cX8_pfaffianOf 44 = .ok (.iload 6, 2) := by decide +kernel
theorem dX8_pfaffianOf_46 : decode cX8_pfaffianOf 46 = .ok (.invokestatic 55, 3) := by decide +kernel
theorem dX8_pfaffianOf_49 : decode cX8_pfaffianOf 49 = .ok (.iconst 1, 1) := by decide +kernel
theorem dX8_pfaffianOf_50 : decode cX8_pfaffianOf 50 = .ok (.if_icmp .ne 52, 3) := by decide +kernel
theorem dX8_pfaffianOf_53 : decode cX8_pfaffianOf 53 = .ok (.iload 5, 2) := by decide +kernel
theorem dX8_pfaffianOf_55 : decode cX8_pfaffianOf 55 = .ok (.aload_n 0, 1) := by decide +kernel
theorem dX8_pfaffianOf_56 : decode cX8_pfaffianOf 56 = .ok (.getfield 15, 3) := by decide +kernel
theorem dX8_pfaffianOf_59 : decode cX8_pfaffianOf 59 = .ok (.iload_n 3, 1) := by decide +kernel
theorem dX8_pfaffianOf_60 : decode cX8_pfaffianOf 60 = .ok (.iconst 1, 1) := by decide +kernel
theorem dX8_pfaffianOf_61 : decode cX8_pfaffianOf 61 = .ok (.iload 6, 2) := by decide +kernel
theorem dX8_pfaffianOf_63 : decode cX8_pfaffianOf 63 = .ok (.ishl, 1) := by decide +kernel
theorem dX8_pfaffianOf_64 : decode cX8_pfaffianOf 64 = .ok (.iconst (-1), 1) := by decide +kernel
theorem dX8_pfaffianOf_65 : decode cX8_pfaffianOf 65 = .ok (.ixor, 1) := by decide +kernel
theorem dX8_pfaffianOf_66 : decode cX8_pfaffianOf 66 = .ok (.iand, 1) := by decide +kernel
theorem dX8_pfaffianOf_67 : decode cX8_pfaffianOf 67 = .ok (.iaload, 1) := by decide +kernel
theorem dX8_pfaffianOf_68 : decode cX8_pfaffianOf 68 = .ok (.imul, 1) := by decide +kernel
theorem dX8_pfaffianOf_69 : decode cX8_pfaffianOf 69 = .ok (.istore 7, 2) := by decide +kernel
theorem dX8_pfaffianOf_71 : decode cX8_pfaffianOf 71 = .ok (.iload 4, 2) := by decide +kernel
theorem dX8_pfaffianOf_73 : decode cX8_pfaffianOf 73 = .ok (.aload_n 0, 1) := by decide +kernel
theorem dX8_pfaffianOf_74 : decode cX8_pfaffianOf 74 = .ok (.getfield 18, 3) := by decide +kernel
theorem dX8_pfaffianOf_77 : decode cX8_pfaffianOf 77 = .ok (.iload_n 2, 1) := by decide +kernel
theorem dX8_pfaffianOf_78 : decode cX8_pfaffianOf 78 = .ok (.iload 6, 2) := by decide +kernel
theorem dX8_pfaffianOf_80 : decode cX8_pfaffianOf 80 = .ok (.invokevirtual 59, 3) := by decide +kernel
theorem dX8_pfaffianOf_83 : decode cX8_pfaffianOf 83 = .ok (.ifCond .eq 8, 3) := by decide +kernel
theorem dX8_pfaffianOf_86 : decode cX8_pfaffianOf 86 = .ok (.iload 7, 2) := by decide +kernel
theorem dX8_pfaffianOf_88 : decode cX8_pfaffianOf 88 = .ok (.goto 6, 3) := by decide +kernel
theorem dX8_pfaffianOf_91 : decode cX8_pfaffianOf 91 = .ok (.iload 7, 2) := by decide +kernel
theorem dX8_pfaffianOf_93 : decode cX8_pfaffianOf 93 = .ok (.ineg, 1) := by decide +kernel
theorem dX8_pfaffianOf_94 : decode cX8_pfaffianOf 94 = .ok (.iadd, 1) := by decide +kernel
theorem dX8_pfaffianOf_95 : decode cX8_pfaffianOf 95 = .ok (.istore 4, 2) := by decide +kernel
theorem dX8_pfaffianOf_97 : decode cX8_pfaffianOf 97 = .ok (.iload 5, 2) := by decide +kernel
theorem dX8_pfaffianOf_99 : decode cX8_pfaffianOf 99 = .ok (.ineg, 1) := by decide +kernel
theorem dX8_pfaffianOf_100 : decode cX8_pfaffianOf 100 = .ok (.istore 5, 2) := by decide +kernel
theorem dX8_pfaffianOf_102 : decode cX8_pfaffianOf 102 = .ok (.iinc 6 1, 3) := by decide +kernel
theorem dX8_pfaffianOf_105 : decode cX8_pfaffianOf 105 = .ok (.goto (-74), 3) := by decide +kernel
theorem dX8_pfaffianOf_108 : decode cX8_pfaffianOf 108 = .ok (.iload 4, 2) := by decide +kernel
theorem dX8_pfaffianOf_110 : decode cX8_pfaffianOf 110 = .ok (.ireturn, 1) := by decide +kernel
theorem dX8_shareAmong_0 : decode cX8_shareAmong 0 = .ok (.iconst 0, 1) := by decide +kernel
theorem dX8_shareAmong_1 : decode cX8_shareAmong 1 = .ok (.istore_n 2, 1) := by decide +kernel
theorem dX8_shareAmong_2 : decode cX8_shareAmong 2 = .ok (.iconst 0, 1) := by decide +kernel
theorem dX8_shareAmong_3 : decode cX8_shareAmong 3 = .ok (.istore_n 3, 1) := by decide +kernel
theorem dX8_shareAmong_4 : decode cX8_shareAmong 4 = .ok (.iload_n 3, 1) := by decide +kernel
theorem dX8_shareAmong_5 : decode cX8_shareAmong 5 = .ok (.bipush 8, 2) := by decide +kernel
theorem dX8_shareAmong_7 : decode cX8_shareAmong 7 = .ok (.if_icmp .ge 78, 3) := by decide +kernel
theorem dX8_shareAmong_10 : decode cX8_shareAmong 10 = .ok (.aload_n 0, 1) := by decide +kernel
theorem dX8_shareAmong_11 : decode cX8_shareAmong 11 = .ok (.getfield 9, 3) := by decide +kernel
theorem dX8_shareAmong_14 : decode cX8_shareAmong 14 = .ok (.iload_n 3, 1) := by decide +kernel
theorem dX8_shareAmong_15 : decode cX8_shareAmong 15 = .ok (.iconst 0, 1) := by decide +kernel
theorem dX8_shareAmong_16 : decode cX8_shareAmong 16 = .ok (.iastore, 1) := by decide +kernel
theorem dX8_shareAmong_17 : decode cX8_shareAmong 17 = .ok (.iload_n 1, 1) := by decide +kernel
theorem dX8_shareAmong_18 : decode cX8_shareAmong 18 = .ok (.iload_n 3, 1) := by decide +kernel
theorem dX8_shareAmong_19 : decode cX8_shareAmong 19 = .ok (.invokestatic 55, 3) := by decide +kernel
theorem dX8_shareAmong_22 : decode cX8_shareAmong 22 = .ok (.iconst 1, 1) := by decide +kernel
theorem dX8_shareAmong_23 : decode cX8_shareAmong 23 = .ok (.if_icmp .ne 56, 3) := by decide +kernel
theorem dX8_shareAmong_26 : decode cX8_shareAmong 26 = .ok (.aload_n 0, 1) := by decide +kernel
theorem dX8_shareAmong_27 : decode cX8_shareAmong 27 = .ok (.getfield 15, 3) := by decide +kernel
theorem dX8_shareAmong_30 : decode cX8_shareAmong 30 = .ok (.iload_n 1, 1) := by decide +kernel
theorem dX8_shareAmong_31 : decode cX8_shareAmong 31 = .ok (.iconst 1, 1) := by decide +kernel
theorem dX8_shareAmong_32 : decode cX8_shareAmong 32 = .ok (.iload_n 3, 1) := by decide +kernel
theorem dX8_shareAmong_33 : decode cX8_shareAmong 33 = .ok (.ishl, 1) := by decide +kernel
theorem dX8_shareAmong_34 : decode cX8_shareAmong 34 = .ok (.iconst (-1), 1) := by decide +kernel
theorem dX8_shareAmong_35 : decode cX8_shareAmong 35 = .ok (.ixor, 1) := by decide +kernel
theorem dX8_shareAmong_36 : decode cX8_shareAmong 36 = .ok (.iand, 1) := by decide +kernel
theorem dX8_shareAmong_37 : decode cX8_shareAmong 37 = .ok (.iaload, 1) := by decide +kernel
theorem dX8_shareAmong_38 : decode cX8_shareAmong 38 = .ok (.istore 4, 2) := by decide +kernel
theorem dX8_shareAmong_40 : decode cX8_shareAmong 40 = .ok (.iload_n 2, 1) := by decide +kernel
theorem dX8_shareAmong_41 : decode cX8_shareAmong 41 = .ok (.ifCond .ne 14, 3) := by decide +kernel
theorem dX8_shareAmong_44 : decode cX8_shareAmong 44 = .ok (.iload 4, 2) := by decide +kernel
theorem dX8_shareAmong_46 : decode cX8_shareAmong 46 = .ok (.ifCond .le 7, 3) := by decide +kernel
theorem dX8_shareAmong_49 : decode cX8_shareAmong 49 = .ok (.iconst 1, 1) := by decide +kernel
theorem dX8_shareAmong_50 : decode cX8_shareAmong 50 = .ok (.goto 4, 3) := by decide +kernel
theorem dX8_shareAmong_53 : decode cX8_shareAmong 53 = .ok (.iconst (-1), 1) := by decide +kernel
theorem dX8_shareAmong_54 : decode cX8_shareAmong 54 = .ok (.istore_n 2, 1) := by decide +kernel
theorem dX8_shareAmong_55 : decode cX8_shareAmong 55 = .ok (.aload_n 0, 1) := by decide +kernel
theorem dX8_shareAmong_56 : decode cX8_shareAmong 56 = .ok (.getfield 9, 3) := by decide +kernel
theorem dX8_shareAmong_59 : decode cX8_shareAmong 59 = .ok (.iload_n 3, 1) := by decide +kernel
theorem dX8_shareAmong_60 : decode cX8_shareAmong 60 = .ok (.iload_n 2, 1) := by decide +kernel
theorem dX8_shareAmong_61 : decode cX8_shareAmong 61 = .ok (.iload 4, 2) := by decide +kernel
theorem dX8_shareAmong_63 : decode cX8_shareAmong 63 = .ok (.imul, 1) := by decide +kernel
theorem dX8_shareAmong_64 : decode cX8_shareAmong 64 = .ok (.iastore, 1) := by decide +kernel
theorem dX8_shareAmong_65 : decode cX8_shareAmong 65 = .ok (.aload_n 0, 1) := by decide +kernel
theorem dX8_shareAmong_66 : decode cX8_shareAmong 66 = .ok (.getfield 9, 3) := by decide +kernel
theorem dX8_shareAmong_69 : decode cX8_shareAmong 69 = .ok (.iload_n 3, 1) := by decide +kernel
theorem dX8_shareAmong_70 : decode cX8_shareAmong 70 = .ok (.iaload, 1) := by decide +kernel
theorem dX8_shareAmong_71 : decode cX8_shareAmong 71 = .ok (.ifCond .gt 5, 3) := by decide +kernel
theorem dX8_shareAmong_74 : decode cX8_shareAmong 74 = .ok (.iconst 0, 1) := by decide +kernel
theorem dX8_shareAmong_75 : decode cX8_shareAmong 75 = .ok (.ireturn, 1) := by decide +kernel
theorem dX8_shareAmong_76 : decode cX8_shareAmong 76 = .ok (.iload_n 2, 1) := by decide +kernel
theorem dX8_shareAmong_77 : decode cX8_shareAmong 77 = .ok (.ineg, 1) := by decide +kernel
theorem dX8_shareAmong_78 : decode cX8_shareAmong 78 = .ok (.istore_n 2, 1) := by decide +kernel
theorem dX8_shareAmong_79 : decode cX8_shareAmong 79 = .ok (.iinc 3 1, 3) := by decide +kernel
theorem dX8_shareAmong_82 : decode cX8_shareAmong 82 = .ok (.goto (-78), 3) := by decide +kernel
theorem dX8_shareAmong_85 : decode cX8_shareAmong 85 = .ok (.iconst 1, 1) := by decide +kernel
theorem dX8_shareAmong_86 : decode cX8_shareAmong 86 = .ok (.ireturn, 1) := by decide +kernel
theorem dX8_gainOf_0 : decode cX8_gainOf 0 = .ok (.iconst 0, 1) := by decide +kernel
theorem dX8_gainOf_1 : decode cX8_gainOf 1 = .ok (.istore_n 3, 1) := by decide +kernel
theorem dX8_gainOf_2 : decode cX8_gainOf 2 = .ok (.iconst 0, 1) := by decide +kernel
theorem dX8_gainOf_3 : decode cX8_gainOf 3 = .ok (.istore 4, 2) := by decide +kernel
theorem dX8_gainOf_5 : decode cX8_gainOf 5 = .ok (.iload 4, 2) := by decide +kernel
theorem dX8_gainOf_7 : decode cX8_gainOf 7 = .ok (.aload_n 0, 1) := by decide +kernel
theorem dX8_gainOf_8 : decode cX8_gainOf 8 = .ok (.getfield 18, 3) := by decide +kernel
theorem dX8_gainOf_11 : decode cX8_gainOf 11 = .ok (.getfield 49, 3) := by decide +kernel
theorem dX8_gainOf_14 : decode cX8_gainOf 14 = .ok (.if_icmp .ge 43, 3) := by decide +kernel
theorem dX8_gainOf_17 : decode cX8_gainOf 17 = .ok (.iload 4, 2) := by decide +kernel
theorem dX8_gainOf_19 : decode cX8_gainOf 19 = .ok (.iload_n 1, 1) := by decide +kernel
theorem dX8_gainOf_20 : decode cX8_gainOf 20 = .ok (.if_icmp .eq 31, 3) := by decide +kernel
theorem dX8_gainOf_23 : decode cX8_gainOf 23 = .ok (.iload_n 3, 1) := by decide +kernel
theorem dX8_gainOf_24 : decode cX8_gainOf 24 = .ok (.aload_n 0, 1) := by decide +kernel
theorem dX8_gainOf_25 : decode cX8_gainOf 25 = .ok (.getfield 18, 3) := by decide +kernel
theorem dX8_gainOf_28 : decode cX8_gainOf 28 = .ok (.iload_n 1, 1) := by decide +kernel
theorem dX8_gainOf_29 : decode cX8_gainOf 29 = .ok (.iload 4, 2) := by decide +kernel
theorem dX8_gainOf_31 : decode cX8_gainOf 31 = .ok (.invokevirtual 59, 3) := by decide +kernel
theorem dX8_gainOf_34 : decode cX8_gainOf 34 = .ok (.ifCond .eq 10, 3) := by decide +kernel
theorem dX8_gainOf_37 : decode cX8_gainOf 37 = .ok (.aload_n 2, 1) := by decide +kernel
theorem dX8_gainOf_38 : decode cX8_gainOf 38 = .ok (.iload 4, 2) := by decide +kernel
theorem dX8_gainOf_40 : decode cX8_gainOf 40 = .ok (.iaload, 1) := by decide +kernel
theorem dX8_gainOf_41 : decode cX8_gainOf 41 = .ok (.goto 8, 3) := by decide +kernel
theorem dX8_gainOf_44 : decode cX8_gainOf 44 = .ok (.aload_n 2, 1) := by decide +kernel
theorem dX8_gainOf_45 : decode cX8_gainOf 45 = .ok (.iload 4, 2) := by decide +kernel
theorem dX8_gainOf_47 : decode cX8_gainOf 47 = .ok (.iaload, 1) := by decide +kernel
theorem dX8_gainOf_48 : decode cX8_gainOf 48 = .ok (.ineg, 1) := by decide +kernel
theorem dX8_gainOf_49 : decode cX8_gainOf 49 = .ok (.iadd, 1) := by decide +kernel
theorem dX8_gainOf_50 : decode cX8_gainOf 50 = .ok (.istore_n 3, 1) := by decide +kernel
theorem dX8_gainOf_51 : decode cX8_gainOf 51 = .ok (.iinc 4 1, 3) := by decide +kernel
theorem dX8_gainOf_54 : decode cX8_gainOf 54 = .ok (.goto (-49), 3) := by decide +kernel
theorem dX8_gainOf_57 : decode cX8_gainOf 57 = .ok (.iload_n 3, 1) := by decide +kernel
theorem dX8_gainOf_58 : decode cX8_gainOf 58 = .ok (.ireturn, 1) := by decide +kernel
theorem dX8_nobodyGains_0 : decode cX8_nobodyGains 0 = .ok (.iconst 0, 1) := by decide +kernel
theorem dX8_nobodyGains_1 : decode cX8_nobodyGains 1 = .ok (.istore_n 3, 1) := by decide +kernel
theorem dX8_nobodyGains_2 : decode cX8_nobodyGains 2 = .ok (.iload_n 3, 1) := by decide +kernel
theorem dX8_nobodyGains_3 : decode cX8_nobodyGains 3 = .ok (.aload_n 0, 1) := by decide +kernel
theorem dX8_nobodyGains_4 : decode cX8_nobodyGains 4 = .ok (.getfield 18, 3) := by decide +kernel
theorem dX8_nobodyGains_7 : decode cX8_nobodyGains 7 = .ok (.getfield 49, 3) := by decide +kernel
theorem dX8_nobodyGains_10 : decode cX8_nobodyGains 10 = .ok (.if_icmp .ge 29, 3) := by decide +kernel
theorem dX8_nobodyGains_13 : decode cX8_nobodyGains 13 = .ok (.iload_n 1, 1) := by decide +kernel
theorem dX8_nobodyGains_14 : decode cX8_nobodyGains 14 = .ok (.iload_n 3, 1) := by decide +kernel
theorem dX8_nobodyGains_15 : decode cX8_nobodyGains 15 = .ok (.invokestatic 55, 3) := by decide +kernel
theorem dX8_nobodyGains_18 : decode cX8_nobodyGains 18 = .ok (.iconst 1, 1) := by decide +kernel
theorem dX8_nobodyGains_19 : decode cX8_nobodyGains 19 = .ok (.if_icmp .ne 14, 3) := by decide +kernel
theorem dX8_nobodyGains_22 : decode cX8_nobodyGains 22 = .ok (.aload_n 0, 1) := by decide +kernel
theorem dX8_nobodyGains_23 : decode cX8_nobodyGains 23 = .ok (.iload_n 3, 1) := by decide +kernel
theorem dX8_nobodyGains_24 : decode cX8_nobodyGains 24 = .ok (.aload_n 2, 1) := by decide +kernel
theorem dX8_nobodyGains_25 : decode cX8_nobodyGains 25 = .ok (.invokevirtual 63, 3) := by decide +kernel
theorem dX8_nobodyGains_28 : decode cX8_nobodyGains 28 = .ok (.ifCond .le 5, 3) := by decide +kernel
theorem dX8_nobodyGains_31 : decode cX8_nobodyGains 31 = .ok (.iconst 0, 1) := by decide +kernel
theorem dX8_nobodyGains_32 : decode cX8_nobodyGains 32 = .ok (.ireturn, 1) := by decide +kernel
theorem dX8_nobodyGains_33 : decode cX8_nobodyGains 33 = .ok (.iinc 3 1, 3) := by decide +kernel
theorem dX8_nobodyGains_36 : decode cX8_nobodyGains 36 = .ok (.goto (-34), 3) := by decide +kernel
theorem dX8_nobodyGains_39 : decode cX8_nobodyGains 39 = .ok (.iconst 1, 1) := by decide +kernel
theorem dX8_nobodyGains_40 : decode cX8_nobodyGains 40 = .ok (.ireturn, 1) := by decide +kernel
theorem dX8_divideShares_0 : decode cX8_divideShares 0 = .ok (.iconst 0, 1) := by decide +kernel
theorem dX8_divideShares_1 : decode cX8_divideShares 1 = .ok (.istore_n 1, 1) := by decide +kernel
theorem dX8_divideShares_2 : decode cX8_divideShares 2 = .ok (.iconst 0, 1) := by decide +kernel
theorem dX8_divideShares_3 : decode cX8_divideShares 3 = .ok (.istore_n 2, 1) := by decide +kernel
theorem dX8_divideShares_4 : decode cX8_divideShares 4 = .ok (.iload_n 2, 1) := by decide +kernel
theorem dX8_divideShares_5 : decode cX8_divideShares 5 = .ok (.bipush 8, 2) := by decide +kernel
theorem dX8_divideShares_7 : decode cX8_divideShares 7 = .ok (.if_icmp .ge 20, 3) := by decide +kernel
theorem dX8_divideShares_10 : decode cX8_divideShares 10 = .ok (.iload_n 1, 1) := by decide +kernel
theorem dX8_divideShares_11 : decode cX8_divideShares 11 = .ok (.aload_n 0, 1) := by decide +kernel
theorem dX8_divideShares_12 : decode cX8_divideShares 12 = .ok (.getfield 9, 3) := by decide +kernel
theorem dX8_divideShares_15 : decode cX8_divideShares 15 = .ok (.iload_n 2, 1) := by decide +kernel
theorem dX8_divideShares_16 : decode cX8_divideShares 16 = .ok (.iaload, 1) := by decide +kernel
theorem dX8_divideShares_17 : decode cX8_divideShares 17 = .ok (.invokestatic 67, 3) := by decide +kernel
theorem dX8_divideShares_20 : decode cX8_divideShares 20 = .ok (.istore_n 1, 1) := by decide +kernel
theorem dX8_divideShares_21 : decode cX8_divideShares 21 = .ok (.iinc 2 1, 3) := by decide +kernel
theorem dX8_divideShares_24 : decode cX8_divideShares 24 = .ok (.goto (-20), 3) := by decide +kernel
theorem dX8_divideShares_27 : decode cX8_divideShares 27 = .ok (.iload_n 1, 1) := by decide +kernel
theorem dX8_divideShares_28 : decode cX8_divideShares 28 = .ok (.iconst 1, 1) := by decide +kernel
theorem dX8_divideShares_29 : decode cX8_divideShares 29 = .ok (.if_icmp .gt 4, 3) := by decide +kernel
theorem dX8_divideShares_32 : decode cX8_divideShares 32 = .ok (.return_, 1) := by decide +kernel
theorem dX8_divideShares_33 : decode cX8_divideShares 33 = .ok (.iconst 0, 1) := by decide +kernel
theorem dX8_divideShares_34 : decode cX8_divideShares 34 = .ok (.istore_n 2, 1) := by decide +kernel
theorem dX8_divideShares_35 : decode cX8_divideShares 35 = .ok (.iload_n 2, 1) := by decide +kernel
theorem dX8_divideShares_36 : decode cX8_divideShares 36 = .ok (.bipush 8, 2) := by decide +kernel
theorem dX8_divideShares_38 : decode cX8_divideShares 38 = .ok (.if_icmp .ge 19, 3) := by decide +kernel
theorem dX8_divideShares_41 : decode cX8_divideShares 41 = .ok (.aload_n 0, 1) := by decide +kernel
theorem dX8_divideShares_42 : decode cX8_divideShares 42 = .ok (.getfield 9, 3) := by decide +kernel
theorem dX8_divideShares_45 : decode cX8_divideShares 45 = .ok (.iload_n 2, 1) := by decide +kernel
theorem dX8_divideShares_46 : decode cX8_divideShares 46 = .ok (.dup2, 1) := by decide +kernel
theorem dX8_divideShares_47 : decode cX8_divideShares 47 = .ok (.iaload, 1) := by decide +kernel
theorem dX8_divideShares_48 : decode cX8_divideShares 48 = .ok (.iload_n 1, 1) := by decide +kernel
theorem dX8_divideShares_49 : decode cX8_divideShares 49 = .ok (.idiv, 1) := by decide +kernel
theorem dX8_divideShares_50 : decode cX8_divideShares 50 = .ok (.iastore, 1) := by decide +kernel
theorem dX8_divideShares_51 : decode cX8_divideShares 51 = .ok (.iinc 2 1, 3) := by decide +kernel
theorem dX8_divideShares_54 : decode cX8_divideShares 54 = .ok (.goto (-19), 3) := by decide +kernel
theorem dX8_divideShares_57 : decode cX8_divideShares 57 = .ok (.return_, 1) := by decide +kernel
theorem dX8_commonDivisor_0 : decode cX8_commonDivisor 0 = .ok (.iload_n 0, 1) := by decide +kernel
theorem dX8_commonDivisor_1 : decode cX8_commonDivisor 1 = .ok (.istore_n 2, 1) := by decide +kernel
theorem dX8_commonDivisor_2 : decode cX8_commonDivisor 2 = .ok (.iload_n 1, 1) := by decide +kernel
theorem dX8_commonDivisor_3 : decode cX8_commonDivisor 3 = .ok (.istore_n 3, 1) := by decide +kernel
theorem dX8_commonDivisor_4 : decode cX8_commonDivisor 4 = .ok (.iconst 0, 1) := by decide +kernel
theorem dX8_commonDivisor_5 : decode cX8_commonDivisor 5 = .ok (.istore 4, 2) := by decide +kernel
theorem dX8_commonDivisor_7 : decode cX8_commonDivisor 7 = .ok (.iload 4, 2) := by decide +kernel
theorem dX8_commonDivisor_9 : decode cX8_commonDivisor 9 = .ok (.bipush 100, 2) := by decide +kernel
theorem dX8_commonDivisor_11 : decode cX8_commonDivisor 11 = .ok (.if_icmp .ge 23, 3) := by decide +kernel
theorem dX8_commonDivisor_14 : decode cX8_commonDivisor 14 = .ok (.iload_n 3, 1) := by decide +kernel
theorem dX8_commonDivisor_15 : decode cX8_commonDivisor 15 = .ok (.ifCond .le 19, 3) := by decide +kernel
theorem dX8_commonDivisor_18 : decode cX8_commonDivisor 18 = .ok (.iload_n 2, 1) := by decide +kernel
theorem dX8_commonDivisor_19 : decode cX8_commonDivisor 19 = .ok (.iload_n 3, 1) := by decide +kernel
theorem dX8_commonDivisor_20 : decode cX8_commonDivisor 20 = .ok (.irem, 1) := by decide +kernel
theorem dX8_commonDivisor_21 : decode cX8_commonDivisor 21 = .ok (.istore 5, 2) := by decide +kernel
theorem dX8_commonDivisor_23 : decode cX8_commonDivisor 23 = .ok (.iload_n 3, 1) := by decide +kernel
theorem dX8_commonDivisor_24 : decode cX8_commonDivisor 24 = .ok (.istore_n 2, 1) := by decide +kernel
theorem dX8_commonDivisor_25 : decode cX8_commonDivisor 25 = .ok (.iload 5, 2) := by decide +kernel
theorem dX8_commonDivisor_27 : decode cX8_commonDivisor 27 = .ok (.istore_n 3, 1) := by decide +kernel
theorem dX8_commonDivisor_28 : decode cX8_commonDivisor 28 = .ok (.iinc 4 1, 3) := by decide +kernel
theorem dX8_commonDivisor_31 : decode cX8_commonDivisor 31 = .ok (.goto (-24), 3) := by decide +kernel
theorem dX8_commonDivisor_34 : decode cX8_commonDivisor 34 = .ok (.iload_n 2, 1) := by decide +kernel
theorem dX8_commonDivisor_35 : decode cX8_commonDivisor 35 = .ok (.ireturn, 1) := by decide +kernel
theorem dX9_init_0 : decode cX9_init 0 = .ok (.aload_n 0, 1) := by decide +kernel
theorem dX9_init_1 : decode cX9_init 1 = .ok (.invokespecial 5, 3) := by decide +kernel
theorem dX9_init_4 : decode cX9_init 4 = .ok (.aload_n 0, 1) := by decide +kernel
theorem dX9_init_5 : decode cX9_init 5 = .ok (.new 11, 3) := by decide +kernel
theorem dX9_init_8 : decode cX9_init 8 = .ok (.dup, 1) := by decide +kernel
theorem dX9_init_9 : decode cX9_init 9 = .ok (.invokespecial 13, 3) := by decide +kernel
theorem dX9_init_12 : decode cX9_init 12 = .ok (.putfield 14, 3) := by decide +kernel
theorem dX9_init_15 : decode cX9_init 15 = .ok (.aload_n 0, 1) := by decide +kernel
theorem dX9_init_16 : decode cX9_init 16 = .ok (.new 18, 3) := by decide +kernel
theorem dX9_init_19 : decode cX9_init 19 = .ok (.dup, 1) := by decide +kernel
theorem dX9_init_20 : decode cX9_init 20 = .ok (.invokespecial 20, 3) := by decide +kernel
theorem dX9_init_23 : decode cX9_init 23 = .ok (.putfield 21, 3) := by decide +kernel
theorem dX9_init_26 : decode cX9_init 26 = .ok (.aload_n 0, 1) := by decide +kernel
theorem dX9_init_27 : decode cX9_init 27 = .ok (.new 18, 3) := by decide +kernel
theorem dX9_init_30 : decode cX9_init 30 = .ok (.dup, 1) := by decide +kernel
theorem dX9_init_31 : decode cX9_init 31 = .ok (.invokespecial 20, 3) := by decide +kernel
theorem dX9_init_34 : decode cX9_init 34 = .ok (.putfield 25, 3) := by decide +kernel
theorem dX9_init_37 : decode cX9_init 37 = .ok (.aload_n 0, 1) := by decide +kernel
theorem dX9_init_38 : decode cX9_init 38 = .ok (.new 28, 3) := by decide +kernel
theorem dX9_init_41 : decode cX9_init 41 = .ok (.dup, 1) := by decide +kernel
theorem dX9_init_42 : decode cX9_init 42 = .ok (.invokespecial 30, 3) := by decide +kernel
theorem dX9_init_45 : decode cX9_init 45 = .ok (.putfield 31, 3) := by decide +kernel
theorem dX9_init_48 : decode cX9_init 48 = .ok (.aload_n 0, 1) := by decide +kernel
theorem dX9_init_49 : decode cX9_init 49 = .ok (.new 35, 3) := by decide +kernel
theorem dX9_init_52 : decode cX9_init 52 = .ok (.dup, 1) := by decide +kernel
theorem dX9_init_53 : decode cX9_init 53 = .ok (.aload_n 0, 1) := by decide +kernel
theorem dX9_init_54 : decode cX9_init 54 = .ok (.getfield 21, 3) := by decide +kernel
theorem dX9_init_57 : decode cX9_init 57 = .ok (.invokespecial 37, 3) := by decide +kernel
theorem dX9_init_60 : decode cX9_init 60 = .ok (.putfield 40, 3) := by decide +kernel
theorem dX9_init_63 : decode cX9_init 63 = .ok (.aload_n 0, 1) := by decide +kernel
theorem dX9_init_64 : decode cX9_init 64 = .ok (.new 44, 3) := by decide +kernel
theorem dX9_init_67 : decode cX9_init 67 = .ok (.dup, 1) := by decide +kernel
theorem dX9_init_68 : decode cX9_init 68 = .ok (.aload_n 0, 1) := by decide +kernel
theorem dX9_init_69 : decode cX9_init 69 = .ok (.getfield 21, 3) := by decide +kernel
theorem dX9_init_72 : decode cX9_init 72 = .ok (.invokespecial 46, 3) := by decide +kernel
theorem dX9_init_75 : decode cX9_init 75 = .ok (.putfield 47, 3) := by decide +kernel
theorem dX9_init_78 : decode cX9_init 78 = .ok (.aload_n 0, 1) := by decide +kernel
theorem dX9_init_79 : decode cX9_init 79 = .ok (.new 51, 3) := by decide +kernel
theorem dX9_init_82 : decode cX9_init 82 = .ok (.dup, 1) := by decide +kernel
theorem dX9_init_83 : decode cX9_init 83 = .ok (.aload_n 0, 1) := by decide +kernel
theorem dX9_init_84 : decode cX9_init 84 = .ok (.getfield 21, 3) := by decide +kernel
theorem dX9_init_87 : decode cX9_init 87 = .ok (.invokespecial 53, 3) := by decide +kernel
theorem dX9_init_90 : decode cX9_init 90 = .ok (.putfield 54, 3) := by decide +kernel
theorem dX9_init_93 : decode cX9_init 93 = .ok (.aload_n 0, 1) := by decide +kernel
theorem dX9_init_94 : decode cX9_init 94 = .ok (.new 58, 3) := by decide +kernel
theorem dX9_init_97 : decode cX9_init 97 = .ok (.dup, 1) := by decide +kernel
theorem dX9_init_98 : decode cX9_init 98 = .ok (.aload_n 0, 1) := by decide +kernel
theorem dX9_init_99 : decode cX9_init 99 = .ok (.getfield 21, 3) := by decide +kernel
theorem dX9_init_102 : decode cX9_init 102 = .ok (.aload_n 0, 1) := by decide +kernel
theorem dX9_init_103 : decode cX9_init 103 = .ok (.getfield 40, 3) := by decide +kernel
theorem dX9_init_106 : decode cX9_init 106 = .ok (.aload_n 0, 1) := by decide +kernel
theorem dX9_init_107 : decode cX9_init 107 = .ok (.getfield 47, 3) := by decide +kernel
theorem dX9_init_110 : decode cX9_init 110 = .ok (.aload_n 0, 1) := by decide +kernel
theorem dX9_init_111 : decode cX9_init 111 = .ok (.getfield 54, 3) := by decide +kernel
theorem dX9_init_114 : decode cX9_init 114 = .ok (.invokespecial 60, 3) := by decide +kernel
theorem dX9_init_117 : decode cX9_init 117 = .ok (.putfield 63, 3) := by decide +kernel
theorem dX9_init_120 : decode cX9_init 120 = .ok (.aload_n 0, 1) := by decide +kernel
theorem dX9_init_121 : decode cX9_init 121 = .ok (.new 67, 3) := by decide +kernel
theorem dX9_init_124 : decode cX9_init 124 = .ok (.dup, 1) := by decide +kernel
theorem dX9_init_125 : decode cX9_init 125 = .ok (.aload_n 0, 1) := by decide +kernel
theorem dX9_init_126 : decode cX9_init 126 = .ok (.getfield 21, 3) := by decide +kernel
theorem dX9_init_129 : decode cX9_init 129 = .ok (.aload_n 0, 1) := by decide +kernel
theorem dX9_init_130 : decode cX9_init 130 = .ok (.getfield 14, 3) := by decide +kernel
theorem dX9_init_133 : decode cX9_init 133 = .ok (.aload_n 0, 1) := by decide +kernel
theorem dX9_init_134 : decode cX9_init 134 = .ok (.getfield 63, 3) := by decide +kernel
theorem dX9_init_137 : decode cX9_init 137 = .ok (.aload_n 0, 1) := by decide +kernel
theorem dX9_init_138 : decode cX9_init 138 = .ok (.getfield 40, 3) := by decide +kernel
theorem dX9_init_141 : decode cX9_init 141 = .ok (.aload_n 0, 1) := by decide +kernel
theorem dX9_init_142 : decode cX9_init 142 = .ok (.getfield 47, 3) := by decide +kernel
theorem dX9_init_145 : decode cX9_init 145 = .ok (.invokespecial 69, 3) := by decide +kernel
theorem dX9_init_148 : decode cX9_init 148 = .ok (.putfield 72, 3) := by decide +kernel
theorem dX9_init_151 : decode cX9_init 151 = .ok (.aload_n 0, 1) := by decide +kernel
theorem dX9_init_152 : decode cX9_init 152 = .ok (.new 76, 3) := by decide +kernel
theorem dX9_init_155 : decode cX9_init 155 = .ok (.dup, 1) := by decide +kernel
theorem dX9_init_156 : decode cX9_init 156 = .ok (.invokespecial 78, 3) := by decide +kernel
theorem dX9_init_159 : decode cX9_init 159 = .ok (.putfield 79, 3) := by decide +kernel
theorem dX9_init_162 : decode cX9_init 162 = .ok (.aload_n 0, 1) := by decide +kernel
theorem dX9_init_163 : decode cX9_init 163 = .ok (.bipush 9, 2) := by decide +kernel
theorem dX9_init_165 : decode cX9_init 165 = .ok (.newarray .int, 2) := by decide +kernel
theorem dX9_init_167 : decode cX9_init 167 = .ok (.putfield 83, 3) := by decide +kernel
theorem dX9_init_170 : decode cX9_init 170 = .ok (.return_, 1) := by decide +kernel
theorem dX9_sign_0 : decode cX9_sign 0 = .ok (.aload_n 0, 1) := by decide +kernel
theorem dX9_sign_1 : decode cX9_sign 1 = .ok (.getfield 14, 3) := by decide +kernel
theorem dX9_sign_4 : decode cX9_sign 4 = .ok (.iload_n 1, 1) := by decide +kernel
theorem dX9_sign_5 : decode cX9_sign 5 = .ok (.invokevirtual 87, 3) := by decide +kernel
theorem dX9_sign_8 : decode cX9_sign 8 = .ok (.ireturn, 1) := by decide +kernel
theorem dX9_end_0 : decode cX9_end 0 = .ok (.aload_n 0, 1) := by decide +kernel
theorem dX9_end_1 : decode cX9_end 1 = .ok (.getfield 14, 3) := by decide +kernel
theorem dX9_end_4 : decode cX9_end 4 = .ok (.iload_n 1, 1) := by decide +kernel
theorem dX9_end_5 : decode cX9_end 5 = .ok (.invokevirtual 91, 3) := by decide +kernel
theorem dX9_end_8 : decode cX9_end 8 = .ok (.ireturn, 1) := by decide +kernel
theorem dX9_round_0 : decode cX9_round 0 = .ok (.aload_n 0, 1) := by decide +kernel
theorem dX9_round_1 : decode cX9_round 1 = .ok (.invokevirtual 95, 3) := by decide +kernel
theorem dX9_round_4 : decode cX9_round 4 = .ok (.istore_n 1, 1) := by decide +kernel
theorem dX9_round_5 : decode cX9_round 5 = .ok (.aload_n 0, 1) := by decide +kernel
theorem dX9_round_6 : decode cX9_round 6 = .ok (.getfield 14, 3) := by decide +kernel
theorem dX9_round_9 : decode cX9_round 9 = .ok (.iconst 0, 1) := by decide +kernel
theorem dX9_round_10 : decode cX9_round 10 = .ok (.invokevirtual 91, 3) := by decide +kernel
theorem dX9_round_13 : decode cX9_round 13 = .ok (.pop, 1) := by decide +kernel
theorem dX9_round_14 : decode cX9_round 14 = .ok (.iload_n 1, 1) := by decide +kernel
theorem dX9_round_15 : decode cX9_round 15 = .ok (.iconst (-1), 1) := by decide +kernel
theorem dX9_round_16 : decode cX9_round 16 = .ok (.if_icmp .eq 9, 3) := by decide +kernel
theorem dX9_round_19 : decode cX9_round 19 = .ok (.sipush (-1000), 3) := by decide +kernel
theorem dX9_round_22 : decode cX9_round 22 = .ok (.iload_n 1, 1) := by decide +kernel
theorem dX9_round_23 : decode cX9_round 23 = .ok (.isub, 1) := by decide +kernel
theorem dX9_round_24 : decode cX9_round 24 = .ok (.ireturn, 1) := by decide +kernel
theorem dX9_round_25 : decode cX9_round 25 = .ok (.aload_n 0, 1) := by decide +kernel
theorem dX9_round_26 : decode cX9_round 26 = .ok (.invokevirtual 99, 3) := by decide +kernel
theorem dX9_round_29 : decode cX9_round 29 = .ok (.ireturn, 1) := by decide +kernel
theorem dX9_drawn_0 : decode cX9_drawn 0 = .ok (.iload_n 1, 1) := by decide +kernel
theorem dX9_drawn_1 : decode cX9_drawn 1 = .ok (.iconst 1, 1) := by decide +kernel
theorem dX9_drawn_2 : decode cX9_drawn 2 = .ok (.if_icmp .lt 19, 3) := by decide +kernel
theorem dX9_drawn_5 : decode cX9_drawn 5 = .ok (.iload_n 1, 1) := by decide +kernel
theorem dX9_drawn_6 : decode cX9_drawn 6 = .ok (.bipush 8, 2) := by decide +kernel
theorem dX9_drawn_8 : decode cX9_drawn 8 = .ok (.if_icmp .gt 13, 3) := by decide +kernel
theorem dX9_drawn_11 : decode cX9_drawn 11 = .ok (.iload_n 2, 1) := by decide +kernel
theorem dX9_drawn_12 : decode cX9_drawn 12 = .ok (.ifCond .lt 9, 3) := by decide +kernel
theorem dX9_drawn_15 : decode cX9_drawn 15 = .ok (.iload_n 2, 1) := by decide +kernel
theorem dX9_drawn_16 : decode cX9_drawn 16 = .ok (.ldc 102, 2) := by decide +kernel
theorem dX9_drawn_18 : decode cX9_drawn 18 = .ok (.if_icmp .le 5, 3) := by decide +kernel
theorem dX9_drawn_21 : decode cX9_drawn 21 = .ok (.iconst (-1), 1) := by decide +kernel
theorem dX9_drawn_22 : decode cX9_drawn 22 = .ok (.ireturn, 1) := by decide +kernel
theorem dX9_drawn_23 : decode cX9_drawn 23 = .ok (.aload_n 0, 1) := by decide +kernel
theorem dX9_drawn_24 : decode cX9_drawn 24 = .ok (.getfield 25, 3) := by decide +kernel
theorem dX9_drawn_27 : decode cX9_drawn 27 = .ok (.invokevirtual 103, 3) := by decide +kernel
theorem dX9_drawn_30 : decode cX9_drawn 30 = .ok (.aload_n 0, 1) := by decide +kernel
theorem dX9_drawn_31 : decode cX9_drawn 31 = .ok (.getfield 25, 3) := by decide +kernel
theorem dX9_drawn_34 : decode cX9_drawn 34 = .ok (.iload_n 1, 1) := by decide +kernel
theorem dX9_drawn_35 : decode cX9_drawn 35 = .ok (.putfield 106, 3) := by decide +kernel
theorem dX9_drawn_38 : decode cX9_drawn 38 = .ok (.iload_n 2, 1) := by decide +kernel
theorem dX9_drawn_39 : decode cX9_drawn 39 = .ok (.istore_n 3, 1) := by decide +kernel
theorem dX9_drawn_40 : decode cX9_drawn 40 = .ok (.iconst 0, 1) := by decide +kernel
theorem dX9_drawn_41 : decode cX9_drawn 41 = .ok (.istore 4, 2) := by decide +kernel
theorem dX9_drawn_43 : decode cX9_drawn 43 = .ok (.iload 4, 2) := by decide +kernel
theorem dX9_drawn_45 : decode cX9_drawn 45 = .ok (.iload_n 1, 1) := by decide +kernel
theorem dX9_drawn_46 : decode cX9_drawn 46 = .ok (.if_icmp .ge 71, 3) := by decide +kernel
theorem dX9_drawn_49 : decode cX9_drawn 49 = .ok (.iload 4, 2) := by decide +kernel
theorem dX9_drawn_51 : decode cX9_drawn 51 = .ok (.iconst 1, 1) := by decide +kernel
theorem dX9_drawn_52 : decode cX9_drawn 52 = .ok (.iadd, 1) := by decide +kernel
theorem dX9_drawn_53 : decode cX9_drawn 53 = .ok (.istore 5, 2) := by decide +kernel
theorem dX9_drawn_55 : decode cX9_drawn 55 = .ok (.iload 5, 2) := by decide +kernel
theorem dX9_drawn_57 : decode cX9_drawn 57 = .ok (.iload_n 1, 1) := by decide +kernel
theorem dX9_drawn_58 : decode cX9_drawn 58 = .ok (.if_icmp .ge 53, 3) := by decide +kernel
theorem dX9_drawn_61 : decode cX9_drawn 61 = .ok (.sipush 1103, 3) := by decide +kernel
theorem dX9_drawn_64 : decode cX9_drawn 64 = .ok (.iload_n 3, 1) := by decide +kernel
theorem dX9_drawn_65 : decode cX9_drawn 65 = .ok (.imul, 1) := by decide +kernel
theorem dX9_drawn_66 : decode cX9_drawn 66 = .ok (.sipush 12345, 3) := by decide +kernel
theorem dX9_drawn_69 : decode cX9_drawn 69 = .ok (.iadd, 1) := by decide +kernel
theorem dX9_drawn_70 : decode cX9_drawn 70 = .ok (.ldc 110, 2) := by decide +kernel
theorem dX9_drawn_72 : decode cX9_drawn 72 = .ok (.irem, 1) := by decide +kernel
theorem dX9_drawn_73 : decode cX9_drawn 73 = .ok (.istore_n 3, 1) := by decide +kernel
theorem dX9_drawn_74 : decode cX9_drawn 74 = .ok (.iload_n 3, 1) := by decide +kernel
theorem dX9_drawn_75 : decode cX9_drawn 75 = .ok (.iconst 2, 1) := by decide +kernel
theorem dX9_drawn_76 : decode cX9_drawn 76 = .ok (.irem, 1) := by decide +kernel
theorem dX9_drawn_77 : decode cX9_drawn 77 = .ok (.ifCond .ne 17, 3) := by decide +kernel
theorem dX9_drawn_80 : decode cX9_drawn 80 = .ok (.aload_n 0, 1) := by decide +kernel
theorem dX9_drawn_81 : decode cX9_drawn 81 = .ok (.getfield 25, 3) := by decide +kernel
theorem dX9_drawn_84 : decode cX9_drawn 84 = .ok (.iload 4, 2) := by decide +kernel
theorem dX9_drawn_86 : decode cX9_drawn 86 = .ok (.iload 5, 2) := by decide +kernel
theorem dX9_drawn_88 : decode cX9_drawn 88 = .ok (.invokevirtual 111, 3) := by decide +kernel
theorem dX9_drawn_91 : decode cX9_drawn 91 = .ok (.goto 14, 3) := by decide +kernel
theorem dX9_drawn_94 : decode cX9_drawn 94 = .ok (.aload_n 0, 1) := by decide +kernel
theorem dX9_drawn_95 : decode cX9_drawn 95 = .ok (.getfield 25, 3) := by decide +kernel
theorem dX9_drawn_98 : decode cX9_drawn 98 = .ok (.iload 5, 2) := by decide +kernel
theorem dX9_drawn_100 : decode cX9_drawn 100 = .ok (.iload 4, 2) := by decide +kernel
theorem dX9_drawn_102 : decode cX9_drawn 102 = .ok (.invokevirtual 111, 3) := by decide +kernel
theorem dX9_drawn_105 : decode cX9_drawn 105 = .ok (.iinc 5 1, 3) := by decide +kernel
theorem dX9_drawn_108 : decode cX9_drawn 108 = .ok (.goto (-53), 3) := by decide +kernel
theorem dX9_drawn_111 : decode cX9_drawn 111 = .ok (.iinc 4 1, 3) := by decide +kernel
theorem dX9_drawn_114 : decode cX9_drawn 114 = .ok (.goto (-71), 3) := by decide +kernel
theorem dX9_drawn_117 : decode cX9_drawn 117 = .ok (.aload_n 0, 1) := by decide +kernel
theorem dX9_drawn_118 : decode cX9_drawn 118 = .ok (.invokevirtual 99, 3) := by decide +kernel
theorem dX9_drawn_121 : decode cX9_drawn 121 = .ok (.ireturn, 1) := by decide +kernel
theorem dX9_duel_0 : decode cX9_duel 0 = .ok (.aload_n 0, 1) := by decide +kernel
theorem dX9_duel_1 : decode cX9_duel 1 = .ok (.getfield 21, 3) := by decide +kernel
theorem dX9_duel_4 : decode cX9_duel 4 = .ok (.iload_n 1, 1) := by decide +kernel
theorem dX9_duel_5 : decode cX9_duel 5 = .ok (.invokevirtual 115, 3) := by decide +kernel
theorem dX9_duel_8 : decode cX9_duel 8 = .ok (.ifCond .eq 19, 3) := by decide +kernel
theorem dX9_duel_11 : decode cX9_duel 11 = .ok (.aload_n 0, 1) := by decide +kernel
theorem dX9_duel_12 : decode cX9_duel 12 = .ok (.getfield 21, 3) := by decide +kernel
theorem dX9_duel_15 : decode cX9_duel 15 = .ok (.iload_n 2, 1) := by decide +kernel
theorem dX9_duel_16 : decode cX9_duel 16 = .ok (.invokevirtual 115, 3) := by decide +kernel
theorem dX9_duel_19 : decode cX9_duel 19 = .ok (.ifCond .eq 8, 3) := by decide +kernel
theorem dX9_duel_22 : decode cX9_duel 22 = .ok (.iload_n 1, 1) := by decide +kernel
theorem dX9_duel_23 : decode cX9_duel 23 = .ok (.iload_n 2, 1) := by decide +kernel
theorem dX9_duel_24 : decode cX9_duel 24 = .ok (.if_icmp .ne 13, 3) := by decide +kernel
theorem dX9_duel_27 : decode cX9_duel 27 = .ok (.new 118, 3) := by decide +kernel
theorem dX9_duel_30 : decode cX9_duel 30 = .ok (.dup, 1) := by decide +kernel
theorem dX9_duel_31 : decode cX9_duel 31 = .ok (.ldc 120, 2) := by decide +kernel
theorem dX9_duel_33 : decode cX9_duel 33 = .ok (.invokespecial 122, 3) := by decide +kernel
theorem dX9_duel_36 : decode cX9_duel 36 = .ok (.athrow, 1) := by decide +kernel
theorem dX9_duel_37 : decode cX9_duel 37 = .ok (.iload_n 3, 1) := by decide +kernel
theorem dX9_duel_38 : decode cX9_duel 38 = .ok (.tableswitch 98 0 2 #[26, 44, 69], 26) := by decide +kernel
theorem dX9_duel_64 : decode cX9_duel 64 = .ok (.aload_n 0, 1) := by decide +kernel
theorem dX9_duel_65 : decode cX9_duel 65 = .ok (.getfield 21, 3) := by decide +kernel
theorem dX9_duel_68 : decode cX9_duel 68 = .ok (.iload_n 1, 1) := by decide +kernel
theorem dX9_duel_69 : decode cX9_duel 69 = .ok (.iload_n 2, 1) := by decide +kernel
theorem dX9_duel_70 : decode cX9_duel 70 = .ok (.invokevirtual 125, 3) := by decide +kernel
theorem dX9_duel_73 : decode cX9_duel 73 = .ok (.ifCond .eq 7, 3) := by decide +kernel
theorem dX9_duel_76 : decode cX9_duel 76 = .ok (.iconst 1, 1) := by decide +kernel
theorem dX9_duel_77 : decode cX9_duel 77 = .ok (.goto 4, 3) := by decide +kernel
theorem dX9_duel_80 : decode cX9_duel 80 = .ok (.iconst 0, 1) := by decide +kernel
theorem dX9_duel_81 : decode cX9_duel 81 = .ok (.ireturn, 1) := by decide +kernel
theorem dX9_duel_82 : decode cX9_duel 82 = .ok (.aload_n 0, 1) := by decide +kernel
theorem dX9_duel_83 : decode cX9_duel 83 = .ok (.getfield 63, 3) := by decide +kernel
theorem dX9_duel_86 : decode cX9_duel 86 = .ok (.iload_n 1, 1) := by decide +kernel
theorem dX9_duel_87 : decode cX9_duel 87 = .ok (.iload_n 2, 1) := by decide +kernel
theorem dX9_duel_88 : decode cX9_duel 88 = .ok (.aload_n 0, 1) := by decide +kernel
theorem dX9_duel_89 : decode cX9_duel 89 = .ok (.getfield 21, 3) := by decide +kernel
theorem dX9_duel_92 : decode cX9_duel 92 = .ok (.invokevirtual 129, 3) := by decide +kernel
theorem dX9_duel_95 : decode cX9_duel 95 = .ok (.invokevirtual 132, 3) := by decide +kernel
theorem dX9_duel_98 : decode cX9_duel 98 = .ok (.ifCond .eq 7, 3) := by decide +kernel
theorem dX9_duel_101 : decode cX9_duel 101 = .ok (.iconst 1, 1) := by decide +kernel
theorem dX9_duel_102 : decode cX9_duel 102 = .ok (.goto 4, 3) := by decide +kernel
theorem dX9_duel_105 : decode cX9_duel 105 = .ok (.iconst 0, 1) := by decide +kernel
theorem dX9_duel_106 : decode cX9_duel 106 = .ok (.ireturn, 1) := by decide +kernel
theorem dX9_duel_107 : decode cX9_duel 107 = .ok (.aload_n 0, 1) := by decide +kernel
theorem dX9_duel_108 : decode cX9_duel 108 = .ok (.getfield 21, 3) := by decide +kernel
theorem dX9_duel_111 : decode cX9_duel 111 = .ok (.getfield 136, 3) := by decide +kernel
theorem dX9_duel_114 : decode cX9_duel 114 = .ok (.iload_n 1, 1) := by decide +kernel
theorem dX9_duel_115 : decode cX9_duel 115 = .ok (.iaload, 1) := by decide +kernel
theorem dX9_duel_116 : decode cX9_duel 116 = .ok (.aload_n 0, 1) := by decide +kernel
theorem dX9_duel_117 : decode cX9_duel 117 = .ok (.getfield 21, 3) := by decide +kernel
theorem dX9_duel_120 : decode cX9_duel 120 = .ok (.iload_n 2, 1) := by decide +kernel
theorem dX9_duel_121 : decode cX9_duel 121 = .ok (.aload_n 0, 1) := by decide +kernel
theorem dX9_duel_122 : decode cX9_duel 122 = .ok (.getfield 21, 3) := by decide +kernel
theorem dX9_duel_125 : decode cX9_duel 125 = .ok (.invokevirtual 129, 3) := by decide +kernel
theorem dX9_duel_128 : decode cX9_duel 128 = .ok (.invokevirtual 139, 3) := by decide +kernel
theorem dX9_duel_131 : decode cX9_duel 131 = .ok (.iand, 1) := by decide +kernel
theorem dX9_duel_132 : decode cX9_duel 132 = .ok (.invokestatic 143, 3) := by decide +kernel
theorem dX9_duel_135 : decode cX9_duel 135 = .ok (.ireturn, 1) := by decide +kernel
theorem dX9_duel_136 : decode cX9_duel 136 = .ok (.iconst (-1), 1) := by decide +kernel
theorem dX9_duel_137 : decode cX9_duel 137 = .ok (.ireturn, 1) := by decide +kernel
theorem dX9_beaten_0 : decode cX9_beaten 0 = .ok (.aload_n 0, 1) := by decide +kernel
theorem dX9_beaten_1 : decode cX9_beaten 1 = .ok (.getfield 21, 3) := by decide +kernel
theorem dX9_beaten_4 : decode cX9_beaten 4 = .ok (.iload_n 1, 1) := by decide +kernel
theorem dX9_beaten_5 : decode cX9_beaten 5 = .ok (.invokevirtual 115, 3) := by decide +kernel
theorem dX9_beaten_8 : decode cX9_beaten 8 = .ok (.ifCond .eq 14, 3) := by decide +kernel
theorem dX9_beaten_11 : decode cX9_beaten 11 = .ok (.aload_n 0, 1) := by decide +kernel
theorem dX9_beaten_12 : decode cX9_beaten 12 = .ok (.getfield 21, 3) := by decide +kernel
theorem dX9_beaten_15 : decode cX9_beaten 15 = .ok (.iload_n 2, 1) := by decide +kernel
theorem dX9_beaten_16 : decode cX9_beaten 16 = .ok (.invokevirtual 146, 3) := by decide +kernel
theorem dX9_beaten_19 : decode cX9_beaten 19 = .ok (.ifCond .ne 5, 3) := by decide +kernel
theorem dX9_beaten_22 : decode cX9_beaten 22 = .ok (.iconst (-1), 1) := by decide +kernel
theorem dX9_beaten_23 : decode cX9_beaten 23 = .ok (.ireturn, 1) := by decide +kernel
theorem dX9_beaten_24 : decode cX9_beaten 24 = .ok (.aload_n 0, 1) := by decide +kernel
theorem dX9_beaten_25 : decode cX9_beaten 25 = .ok (.getfield 21, 3) := by decide +kernel
theorem dX9_beaten_28 : decode cX9_beaten 28 = .ok (.getfield 136, 3) := by decide +kernel
theorem dX9_beaten_31 : decode cX9_beaten 31 = .ok (.iload_n 1, 1) := by decide +kernel
theorem dX9_beaten_32 : decode cX9_beaten 32 = .ok (.iaload, 1) := by decide +kernel
theorem dX9_beaten_33 : decode cX9_beaten 33 = .ok (.iload_n 2, 1) := by decide +kernel
theorem dX9_beaten_34 : decode cX9_beaten 34 = .ok (.iand, 1) := by decide +kernel
theorem dX9_beaten_35 : decode cX9_beaten 35 = .ok (.ireturn, 1) := by decide +kernel
theorem dX9_turn_0 : decode cX9_turn 0 = .ok (.iload_n 1, 1) := by decide +kernel
theorem dX9_turn_1 : decode cX9_turn 1 = .ok (.iload_n 2, 1) := by decide +kernel
theorem dX9_turn_2 : decode cX9_turn 2 = .ok (.if_icmp .ne 5, 3) := by decide +kernel
theorem dX9_turn_5 : decode cX9_turn 5 = .ok (.iconst (-1), 1) := by decide +kernel
theorem dX9_turn_6 : decode cX9_turn 6 = .ok (.ireturn, 1) := by decide +kernel
theorem dX9_turn_7 : decode cX9_turn 7 = .ok (.aload_n 0, 1) := by decide +kernel
theorem dX9_turn_8 : decode cX9_turn 8 = .ok (.getfield 21, 3) := by decide +kernel
theorem dX9_turn_11 : decode cX9_turn 11 = .ok (.iload_n 1, 1) := by decide +kernel
theorem dX9_turn_12 : decode cX9_turn 12 = .ok (.invokevirtual 115, 3) := by decide +kernel
theorem dX9_turn_15 : decode cX9_turn 15 = .ok (.ifCond .eq 14, 3) := by decide +kernel
theorem dX9_turn_18 : decode cX9_turn 18 = .ok (.aload_n 0, 1) := by decide +kernel
theorem dX9_turn_19 : decode cX9_turn 19 = .ok (.getfield 21, 3) := by decide +kernel
theorem dX9_turn_22 : decode cX9_turn 22 = .ok (.iload_n 2, 1) := by decide +kernel
theorem dX9_turn_23 : decode cX9_turn 23 = .ok (.invokevirtual 115, 3) := by decide +kernel
theorem dX9_turn_26 : decode cX9_turn 26 = .ok (.ifCond .ne 6, 3) := by decide +kernel
theorem dX9_turn_29 : decode cX9_turn 29 = .ok (.bipush (-2), 2) := by decide +kernel
theorem dX9_turn_31 : decode cX9_turn 31 = .ok (.ireturn, 1) := by decide +kernel
theorem dX9_turn_32 : decode cX9_turn 32 = .ok (.aload_n 0, 1) := by decide +kernel
theorem dX9_turn_33 : decode cX9_turn 33 = .ok (.getfield 31, 3) := by decide +kernel
theorem dX9_turn_36 : decode cX9_turn 36 = .ok (.aload_n 0, 1) := by decide +kernel
theorem dX9_turn_37 : decode cX9_turn 37 = .ok (.getfield 21, 3) := by decide +kernel
theorem dX9_turn_40 : decode cX9_turn 40 = .ok (.invokevirtual 149, 3) := by decide +kernel
theorem dX9_turn_43 : decode cX9_turn 43 = .ok (.invokevirtual 153, 3) := by decide +kernel
theorem dX9_turn_46 : decode cX9_turn 46 = .ok (.aload_n 0, 1) := by decide +kernel
theorem dX9_turn_47 : decode cX9_turn 47 = .ok (.getfield 21, 3) := by decide +kernel
theorem dX9_turn_50 : decode cX9_turn 50 = .ok (.iload_n 1, 1) := by decide +kernel
theorem dX9_turn_51 : decode cX9_turn 51 = .ok (.iload_n 2, 1) := by decide +kernel
theorem dX9_turn_52 : decode cX9_turn 52 = .ok (.invokevirtual 157, 3) := by decide +kernel
theorem dX9_turn_55 : decode cX9_turn 55 = .ok (.aload_n 0, 1) := by decide +kernel
theorem dX9_turn_56 : decode cX9_turn 56 = .ok (.getfield 21, 3) := by decide +kernel
theorem dX9_turn_59 : decode cX9_turn 59 = .ok (.iload_n 1, 1) := by decide +kernel
theorem dX9_turn_60 : decode cX9_turn 60 = .ok (.iload_n 2, 1) := by decide +kernel
theorem dX9_turn_61 : decode cX9_turn 61 = .ok (.invokevirtual 160, 3) := by decide +kernel
theorem dX9_turn_64 : decode cX9_turn 64 = .ok (.ireturn, 1) := by decide +kernel
theorem dX9_join_0 : decode cX9_join 0 = .ok (.aload_n 0, 1) := by decide +kernel
theorem dX9_join_1 : decode cX9_join 1 = .ok (.getfield 21, 3) := by decide +kernel
theorem dX9_join_4 : decode cX9_join 4 = .ok (.iload_n 1, 1) := by decide +kernel
theorem dX9_join_5 : decode cX9_join 5 = .ok (.invokevirtual 146, 3) := by decide +kernel
theorem dX9_join_8 : decode cX9_join 8 = .ok (.ifCond .ne 5, 3) := by decide +kernel
theorem dX9_join_11 : decode cX9_join 11 = .ok (.iconst (-1), 1) := by decide +kernel
theorem dX9_join_12 : decode cX9_join 12 = .ok (.ireturn, 1) := by decide +kernel
theorem dX9_join_13 : decode cX9_join 13 = .ok (.aload_n 0, 1) := by decide +kernel
theorem dX9_join_14 : decode cX9_join 14 = .ok (.getfield 21, 3) := by decide +kernel
theorem dX9_join_17 : decode cX9_join 17 = .ok (.getfield 106, 3) := by decide +kernel
theorem dX9_join_20 : decode cX9_join 20 = .ok (.ifCond .ne 6, 3) := by decide +kernel
theorem dX9_join_23 : decode cX9_join 23 = .ok (.bipush (-2), 2) := by decide +kernel
theorem dX9_join_25 : decode cX9_join 25 = .ok (.ireturn, 1) := by decide +kernel
theorem dX9_join_26 : decode cX9_join 26 = .ok (.aload_n 0, 1) := by decide +kernel
theorem dX9_join_27 : decode cX9_join 27 = .ok (.getfield 21, 3) := by decide +kernel
theorem dX9_join_30 : decode cX9_join 30 = .ok (.getfield 106, 3) := by decide +kernel
theorem dX9_join_33 : decode cX9_join 33 = .ok (.bipush 8, 2) := by decide +kernel
theorem dX9_join_35 : decode cX9_join 35 = .ok (.if_icmp .lt 6, 3) := by decide +kernel
theorem dX9_join_38 : decode cX9_join 38 = .ok (.bipush (-3), 2) := by decide +kernel
theorem dX9_join_40 : decode cX9_join 40 = .ok (.ireturn, 1) := by decide +kernel
theorem dX9_join_41 : decode cX9_join 41 = .ok (.aload_n 0, 1) := by decide +kernel
theorem dX9_join_42 : decode cX9_join 42 = .ok (.getfield 31, 3) := by decide +kernel
theorem dX9_join_45 : decode cX9_join 45 = .ok (.aload_n 0, 1) := by decide +kernel
theorem dX9_join_46 : decode cX9_join 46 = .ok (.getfield 21, 3) := by decide +kernel
theorem dX9_join_49 : decode cX9_join 49 = .ok (.invokevirtual 149, 3) := by decide +kernel
theorem dX9_join_52 : decode cX9_join 52 = .ok (.invokevirtual 153, 3) := by decide +kernel
theorem dX9_join_55 : decode cX9_join 55 = .ok (.aload_n 0, 1) := by decide +kernel
theorem dX9_join_56 : decode cX9_join 56 = .ok (.getfield 21, 3) := by decide +kernel
theorem dX9_join_59 : decode cX9_join 59 = .ok (.iload_n 1, 1) := by decide +kernel
theorem dX9_join_60 : decode cX9_join 60 = .ok (.invokevirtual 163, 3) := by decide +kernel
theorem dX9_join_63 : decode cX9_join 63 = .ok (.aload_n 0, 1) := by decide +kernel
theorem dX9_join_64 : decode cX9_join 64 = .ok (.getfield 21, 3) := by decide +kernel
theorem dX9_join_67 : decode cX9_join 67 = .ok (.getfield 106, 3) := by decide +kernel
theorem dX9_join_70 : decode cX9_join 70 = .ok (.ireturn, 1) := by decide +kernel
theorem dX9_drop_0 : decode cX9_drop 0 = .ok (.aload_n 0, 1) := by decide +kernel
theorem dX9_drop_1 : decode cX9_drop 1 = .ok (.getfield 21, 3) := by decide +kernel
theorem dX9_drop_4 : decode cX9_drop 4 = .ok (.iload_n 1, 1) := by decide +kernel
theorem dX9_drop_5 : decode cX9_drop 5 = .ok (.invokevirtual 115, 3) := by decide +kernel
theorem dX9_drop_8 : decode cX9_drop 8 = .ok (.ifCond .ne 6, 3) := by decide +kernel
theorem dX9_drop_11 : decode cX9_drop 11 = .ok (.bipush (-2), 2) := by decide +kernel
theorem dX9_drop_13 : decode cX9_drop 13 = .ok (.ireturn, 1) := by decide +kernel
theorem dX9_drop_14 : decode cX9_drop 14 = .ok (.aload_n 0, 1) := by decide +kernel
theorem dX9_drop_15 : decode cX9_drop 15 = .ok (.getfield 21, 3) := by decide +kernel
theorem dX9_drop_18 : decode cX9_drop 18 = .ok (.getfield 106, 3) := by decide +kernel
theorem dX9_drop_21 : decode cX9_drop 21 = .ok (.iconst 1, 1) := by decide +kernel
theorem dX9_drop_22 : decode cX9_drop 22 = .ok (.if_icmp .ne 6, 3) := by decide +kernel
theorem dX9_drop_25 : decode cX9_drop 25 = .ok (.bipush (-3), 2) := by decide +kernel
theorem dX9_drop_27 : decode cX9_drop 27 = .ok (.ireturn, 1) := by decide +kernel
theorem dX9_drop_28 : decode cX9_drop 28 = .ok (.aload_n 0, 1) := by decide +kernel
theorem dX9_drop_29 : decode cX9_drop 29 = .ok (.getfield 31, 3) := by decide +kernel
theorem dX9_drop_32 : decode cX9_drop 32 = .ok (.aload_n 0, 1) := by decide +kernel
theorem dX9_drop_33 : decode cX9_drop 33 = .ok (.getfield 21, 3) := by decide +kernel
theorem dX9_drop_36 : decode cX9_drop 36 = .ok (.invokevirtual 149, 3) := by decide +kernel
theorem dX9_drop_39 : decode cX9_drop 39 = .ok (.invokevirtual 153, 3) := by decide +kernel
theorem dX9_drop_42 : decode cX9_drop 42 = .ok (.aload_n 0, 1) := by decide +kernel
theorem dX9_drop_43 : decode cX9_drop 43 = .ok (.getfield 21, 3) := by decide +kernel
theorem dX9_drop_46 : decode cX9_drop 46 = .ok (.iload_n 1, 1) := by decide +kernel
theorem dX9_drop_47 : decode cX9_drop 47 = .ok (.invokevirtual 167, 3) := by decide +kernel
theorem dX9_drop_50 : decode cX9_drop 50 = .ok (.aload_n 0, 1) := by decide +kernel
theorem dX9_drop_51 : decode cX9_drop 51 = .ok (.getfield 21, 3) := by decide +kernel
theorem dX9_drop_54 : decode cX9_drop 54 = .ok (.getfield 106, 3) := by decide +kernel
theorem dX9_drop_57 : decode cX9_drop 57 = .ok (.ireturn, 1) := by decide +kernel
theorem dX9_set_0 : decode cX9_set 0 = .ok (.aload_n 0, 1) := by decide +kernel
theorem dX9_set_1 : decode cX9_set 1 = .ok (.getfield 21, 3) := by decide +kernel
theorem dX9_set_4 : decode cX9_set 4 = .ok (.getfield 106, 3) := by decide +kernel
theorem dX9_set_7 : decode cX9_set 7 = .ok (.ifCond .eq 21, 3) := by decide +kernel
theorem dX9_set_10 : decode cX9_set 10 = .ok (.iload_n 1, 1) := by decide +kernel
theorem dX9_set_11 : decode cX9_set 11 = .ok (.invokestatic 170, 3) := by decide +kernel
theorem dX9_set_14 : decode cX9_set 14 = .ok (.ifCond .eq 14, 3) := by decide +kernel
theorem dX9_set_17 : decode cX9_set 17 = .ok (.aload_n 0, 1) := by decide +kernel
theorem dX9_set_18 : decode cX9_set 18 = .ok (.getfield 21, 3) := by decide +kernel
theorem dX9_set_21 : decode cX9_set 21 = .ok (.iload_n 2, 1) := by decide +kernel
theorem dX9_set_22 : decode cX9_set 22 = .ok (.invokevirtual 146, 3) := by decide +kernel
theorem dX9_set_25 : decode cX9_set 25 = .ok (.ifCond .ne 5, 3) := by decide +kernel
theorem dX9_set_28 : decode cX9_set 28 = .ok (.iconst (-1), 1) := by decide +kernel
theorem dX9_set_29 : decode cX9_set 29 = .ok (.ireturn, 1) := by decide +kernel
theorem dX9_set_30 : decode cX9_set 30 = .ok (.aload_n 0, 1) := by decide +kernel
theorem dX9_set_31 : decode cX9_set 31 = .ok (.getfield 63, 3) := by decide +kernel
theorem dX9_set_34 : decode cX9_set 34 = .ok (.iload_n 1, 1) := by decide +kernel
theorem dX9_set_35 : decode cX9_set 35 = .ok (.iload_n 2, 1) := by decide +kernel
theorem dX9_set_36 : decode cX9_set 36 = .ok (.invokevirtual 173, 3) := by decide +kernel
theorem dX9_set_39 : decode cX9_set 39 = .ok (.ireturn, 1) := by decide +kernel
theorem dX9_praised_0 : decode cX9_praised 0 = .ok (.aload_n 0, 1) := by decide +kernel
theorem dX9_praised_1 : decode cX9_praised 1 = .ok (.getfield 21, 3) := by decide +kernel
theorem dX9_praised_4 : decode cX9_praised 4 = .ok (.iload_n 1, 1) := by decide +kernel
theorem dX9_praised_5 : decode cX9_praised 5 = .ok (.invokevirtual 115, 3) := by decide +kernel
theorem dX9_praised_8 : decode cX9_praised 8 = .ok (.ifCond .eq 14, 3) := by decide +kernel
theorem dX9_praised_11 : decode cX9_praised 11 = .ok (.iload_n 2, 1) := by decide +kernel
theorem dX9_praised_12 : decode cX9_praised 12 = .ok (.iconst (-1), 1) := by decide +kernel
theorem dX9_praised_13 : decode cX9_praised 13 = .ok (.if_icmp .lt 9, 3) := by decide +kernel
theorem dX9_praised_16 : decode cX9_praised 16 = .ok (.iload_n 2, 1) := by decide +kernel
theorem dX9_praised_17 : decode cX9_praised 17 = .ok (.bipush 9, 2) := by decide +kernel
theorem dX9_praised_19 : decode cX9_praised 19 = .ok (.if_icmp .lt 5, 3) := by decide +kernel
theorem dX9_praised_22 : decode cX9_praised 22 = .ok (.iconst (-1), 1) := by decide +kernel
theorem dX9_praised_23 : decode cX9_praised 23 = .ok (.ireturn, 1) := by decide +kernel
theorem dX9_praised_24 : decode cX9_praised 24 = .ok (.iload_n 2, 1) := by decide +kernel
theorem dX9_praised_25 : decode cX9_praised 25 = .ok (.iconst (-1), 1) := by decide +kernel
theorem dX9_praised_26 : decode cX9_praised 26 = .ok (.if_icmp .eq 23, 3) := by decide +kernel
theorem dX9_praised_29 : decode cX9_praised 29 = .ok (.aload_n 0, 1) := by decide +kernel
theorem dX9_praised_30 : decode cX9_praised 30 = .ok (.getfield 63, 3) := by decide +kernel
theorem dX9_praised_33 : decode cX9_praised 33 = .ok (.iload_n 2, 1) := by decide +kernel
theorem dX9_praised_34 : decode cX9_praised 34 = .ok (.aload_n 0, 1) := by decide +kernel
theorem dX9_praised_35 : decode cX9_praised 35 = .ok (.getfield 21, 3) := by decide +kernel
theorem dX9_praised_38 : decode cX9_praised 38 = .ok (.invokevirtual 129, 3) := by decide +kernel
theorem dX9_praised_41 : decode cX9_praised 41 = .ok (.invokevirtual 173, 3) := by decide +kernel
theorem dX9_praised_44 : decode cX9_praised 44 = .ok (.iload_n 1, 1) := by decide +kernel
theorem dX9_praised_45 : decode cX9_praised 45 = .ok (.invokestatic 176, 3) := by decide +kernel
theorem dX9_praised_48 : decode cX9_praised 48 = .ok (.ireturn, 1) := by decide +kernel
theorem dX9_praised_49 : decode cX9_praised 49 = .ok (.iconst 0, 1) := by decide +kernel
theorem dX9_praised_50 : decode cX9_praised 50 = .ok (.istore_n 3, 1) := by decide +kernel
theorem dX9_praised_51 : decode cX9_praised 51 = .ok (.iconst 0, 1) := by decide +kernel
theorem dX9_praised_52 : decode cX9_praised 52 = .ok (.istore 4, 2) := by decide +kernel
theorem dX9_praised_54 : decode cX9_praised 54 = .ok (.iload 4, 2) := by decide +kernel
theorem dX9_praised_56 : decode cX9_praised 56 = .ok (.bipush 9, 2) := by decide +kernel
theorem dX9_praised_58 : decode cX9_praised 58 = .ok (.if_icmp .ge 32, 3) := by decide +kernel
theorem dX9_praised_61 : decode cX9_praised 61 = .ok (.iload_n 3, 1) := by decide +kernel
theorem dX9_praised_62 : decode cX9_praised 62 = .ok (.aload_n 0, 1) := by decide +kernel
theorem dX9_praised_63 : decode cX9_praised 63 = .ok (.getfield 63, 3) := by decide +kernel
theorem dX9_praised_66 : decode cX9_praised 66 = .ok (.iload 4, 2) := by decide +kernel
theorem dX9_praised_68 : decode cX9_praised 68 = .ok (.aload_n 0, 1) := by decide +kernel
theorem dX9_praised_69 : decode cX9_praised 69 = .ok (.getfield 21, 3) := by decide +kernel
theorem dX9_praised_72 : decode cX9_praised 72 = .ok (.invokevirtual 129, 3) := by decide +kernel
theorem dX9_praised_75 : decode cX9_praised 75 = .ok (.invokevirtual 173, 3) := by decide +kernel
theorem dX9_praised_78 : decode cX9_praised 78 = .ok (.iload_n 1, 1) := by decide +kernel
theorem dX9_praised_79 : decode cX9_praised 79 = .ok (.invokestatic 176, 3) := by decide +kernel
theorem dX9_praised_82 : decode cX9_praised 82 = .ok (.iadd, 1) := by decide +kernel
theorem dX9_praised_83 : decode cX9_praised 83 = .ok (.istore_n 3, 1) := by decide +kernel
theorem dX9_praised_84 : decode cX9_praised 84 = .ok (.iinc 4 1, 3) := by decide +kernel
theorem dX9_praised_87 : decode cX9_praised 87 = .ok (.goto (-33), 3) := by decide +kernel
theorem dX9_praised_90 : decode cX9_praised 90 = .ok (.iload_n 3, 1) := by decide +kernel
theorem dX9_praised_91 : decode cX9_praised 91 = .ok (.ireturn, 1) := by decide +kernel
theorem dX9_within_0 : decode cX9_within 0 = .ok (.aload_n 0, 1) := by decide +kernel
theorem dX9_within_1 : decode cX9_within 1 = .ok (.getfield 21, 3) := by decide +kernel
theorem dX9_within_4 : decode cX9_within 4 = .ok (.getfield 106, 3) := by decide +kernel
theorem dX9_within_7 : decode cX9_within 7 = .ok (.ifCond .eq 12, 3) := by decide +kernel
theorem dX9_within_10 : decode cX9_within 10 = .ok (.iload_n 1, 1) := by decide +kernel
theorem dX9_within_11 : decode cX9_within 11 = .ok (.ifCond .lt 8, 3) := by decide +kernel
theorem dX9_within_14 : decode cX9_within 14 = .ok (.iload_n 1, 1) := by decide +kernel
theorem dX9_within_15 : decode cX9_within 15 = .ok (.iconst 1, 1) := by decide +kernel
theorem dX9_within_16 : decode cX9_within 16 = .ok (.if_icmp .le 5, 3) := by decide +kernel
theorem dX9_within_19 : decode cX9_within 19 = .ok (.iconst (-1), 1) := by decide +kernel
theorem dX9_within_20 : decode cX9_within 20 = .ok (.ireturn, 1) := by decide +kernel
theorem dX9_within_21 : decode cX9_within 21 = .ok (.iconst 0, 1) := by decide +kernel
theorem dX9_within_22 : decode cX9_within 22 = .ok (.istore_n 2, 1) := by decide +kernel
theorem dX9_within_23 : decode cX9_within 23 = .ok (.iload_n 2, 1) := by decide +kernel
theorem dX9_within_24 : decode cX9_within 24 = .ok (.bipush 9, 2) := by decide +kernel
theorem dX9_within_26 : decode cX9_within 26 = .ok (.if_icmp .ge 30, 3) := by decide +kernel
theorem dX9_within_29 : decode cX9_within 29 = .ok (.aload_n 0, 1) := by decide +kernel
theorem dX9_within_30 : decode cX9_within 30 = .ok (.getfield 83, 3) := by decide +kernel
theorem dX9_within_33 : decode cX9_within 33 = .ok (.iload_n 2, 1) := by decide +kernel
theorem dX9_within_34 : decode cX9_within 34 = .ok (.aload_n 0, 1) := by decide +kernel
theorem dX9_within_35 : decode cX9_within 35 = .ok (.getfield 63, 3) := by decide +kernel
theorem dX9_within_38 : decode cX9_within 38 = .ok (.iload_n 2, 1) := by decide +kernel
theorem dX9_within_39 : decode cX9_within 39 = .ok (.aload_n 0, 1) := by decide +kernel
theorem dX9_within_40 : decode cX9_within 40 = .ok (.getfield 21, 3) := by decide +kernel
theorem dX9_within_43 : decode cX9_within 43 = .ok (.invokevirtual 129, 3) := by decide +kernel
theorem dX9_within_46 : decode cX9_within 46 = .ok (.invokevirtual 173, 3) := by decide +kernel
theorem dX9_within_49 : decode cX9_within 49 = .ok (.iastore, 1) := by decide +kernel
theorem dX9_within_50 : decode cX9_within 50 = .ok (.iinc 2 1, 3) := by decide +kernel
theorem dX9_within_53 : decode cX9_within 53 = .ok (.goto (-30), 3) := by decide +kernel
theorem dX9_within_56 : decode cX9_within 56 = .ok (.iload_n 1, 1) := by decide +kernel
theorem dX9_within_57 : decode cX9_within 57 = .ok (.ifCond .ne 10, 3) := by decide +kernel
theorem dX9_within_60 : decode cX9_within 60 = .ok (.aload_n 0, 1) := by decide +kernel
theorem dX9_within_61 : decode cX9_within 61 = .ok (.invokevirtual 179, 3) := by decide +kernel
theorem dX9_within_64 : decode cX9_within 64 = .ok (.goto 7, 3) := by decide +kernel
theorem dX9_within_67 : decode cX9_within 67 = .ok (.aload_n 0, 1) := by decide +kernel
theorem dX9_within_68 : decode cX9_within 68 = .ok (.invokevirtual 182, 3) := by decide +kernel
theorem dX9_within_71 : decode cX9_within 71 = .ok (.ireturn, 1) := by decide +kernel
theorem dX9_chain_0 : decode cX9_chain 0 = .ok (.aload_n 0, 1) := by decide +kernel
theorem dX9_chain_1 : decode cX9_chain 1 = .ok (.getfield 21, 3) := by decide +kernel
theorem dX9_chain_4 : decode cX9_chain 4 = .ok (.iload_n 1, 1) := by decide +kernel
theorem dX9_chain_5 : decode cX9_chain 5 = .ok (.invokevirtual 115, 3) := by decide +kernel
theorem dX9_chain_8 : decode cX9_chain 8 = .ok (.ifCond .eq 27, 3) := by decide +kernel
theorem dX9_chain_11 : decode cX9_chain 11 = .ok (.aload_n 0, 1) := by decide +kernel
theorem dX9_chain_12 : decode cX9_chain 12 = .ok (.getfield 21, 3) := by decide +kernel
theorem dX9_chain_15 : decode cX9_chain 15 = .ok (.iload_n 2, 1) := by decide +kernel
theorem dX9_chain_16 : decode cX9_chain 16 = .ok (.invokevirtual 146, 3) := by decide +kernel
theorem dX9_chain_19 : decode cX9_chain 19 = .ok (.ifCond .eq 16, 3) := by decide +kernel
theorem dX9_chain_22 : decode cX9_chain 22 = .ok (.iload_n 2, 1) := by decide +kernel
theorem dX9_chain_23 : decode cX9_chain 23 = .ok (.iload_n 1, 1) := by decide +kernel
theorem dX9_chain_24 : decode cX9_chain 24 = .ok (.invokestatic 176, 3) := by decide +kernel
theorem dX9_chain_27 : decode cX9_chain 27 = .ok (.ifCond .eq 8, 3) := by decide +kernel
theorem dX9_chain_30 : decode cX9_chain 30 = .ok (.iload_n 3, 1) := by decide +kernel
theorem dX9_chain_31 : decode cX9_chain 31 = .ok (.iconst (-1), 1) := by decide +kernel
theorem dX9_chain_32 : decode cX9_chain 32 = .ok (.if_icmp .ge 5, 3) := by decide +kernel
theorem dX9_chain_35 : decode cX9_chain 35 = .ok (.iconst (-1), 1) := by decide +kernel
theorem dX9_chain_36 : decode cX9_chain 36 = .ok (.ireturn, 1) := by decide +kernel
theorem dX9_chain_37 : decode cX9_chain 37 = .ok (.aload_n 0, 1) := by decide +kernel
theorem dX9_chain_38 : decode cX9_chain 38 = .ok (.getfield 63, 3) := by decide +kernel
theorem dX9_chain_41 : decode cX9_chain 41 = .ok (.iload_n 1, 1) := by decide +kernel
theorem dX9_chain_42 : decode cX9_chain 42 = .ok (.iload_n 2, 1) := by decide +kernel
theorem dX9_chain_43 : decode cX9_chain 43 = .ok (.invokevirtual 185, 3) := by decide +kernel
theorem dX9_chain_46 : decode cX9_chain 46 = .ok (.istore 4, 2) := by decide +kernel
theorem dX9_chain_48 : decode cX9_chain 48 = .ok (.iload 4, 2) := by decide +kernel
theorem dX9_chain_50 : decode cX9_chain 50 = .ok (.ifCond .ne 6, 3) := by decide +kernel
theorem dX9_chain_53 : decode cX9_chain 53 = .ok (.bipush (-3), 2) := by decide +kernel
theorem dX9_chain_55 : decode cX9_chain 55 = .ok (.ireturn, 1) := by decide +kernel
theorem dX9_chain_56 : decode cX9_chain 56 = .ok (.iload_n 3, 1) := by decide +kernel
theorem dX9_chain_57 : decode cX9_chain 57 = .ok (.iconst (-1), 1) := by decide +kernel
theorem dX9_chain_58 : decode cX9_chain 58 = .ok (.if_icmp .ne 6, 3) := by decide +kernel
theorem dX9_chain_61 : decode cX9_chain 61 = .ok (.iload 4, 2) := by decide +kernel
theorem dX9_chain_63 : decode cX9_chain 63 = .ok (.ireturn, 1) := by decide +kernel
theorem dX9_chain_64 : decode cX9_chain 64 = .ok (.iload_n 3, 1) := by decide +kernel
theorem dX9_chain_65 : decode cX9_chain 65 = .ok (.iload 4, 2) := by decide +kernel
theorem dX9_chain_67 : decode cX9_chain 67 = .ok (.if_icmp .ge 15, 3) := by decide +kernel
theorem dX9_chain_70 : decode cX9_chain 70 = .ok (.aload_n 0, 1) := by decide +kernel
theorem dX9_chain_71 : decode cX9_chain 71 = .ok (.getfield 63, 3) := by decide +kernel
theorem dX9_chain_74 : decode cX9_chain 74 = .ok (.getfield 188, 3) := by decide +kernel
theorem dX9_chain_77 : decode cX9_chain 77 = .ok (.iload_n 3, 1) := by decide +kernel
theorem dX9_chain_78 : decode cX9_chain 78 = .ok (.iaload, 1) := by decide +kernel
theorem dX9_chain_79 : decode cX9_chain 79 = .ok (.goto 4, 3) := by decide +kernel
theorem dX9_chain_82 : decode cX9_chain 82 = .ok (.iconst (-1), 1) := by decide +kernel
theorem dX9_chain_83 : decode cX9_chain 83 = .ok (.ireturn, 1) := by decide +kernel
theorem dX9_best_0 : decode cX9_best 0 = .ok (.aload_n 0, 1) := by decide +kernel
theorem dX9_best_1 : decode cX9_best 1 = .ok (.getfield 21, 3) := by decide +kernel
theorem dX9_best_4 : decode cX9_best 4 = .ok (.getfield 106, 3) := by decide +kernel
theorem dX9_best_7 : decode cX9_best 7 = .ok (.ifCond .ne 5, 3) := by decide +kernel
theorem dX9_best_10 : decode cX9_best 10 = .ok (.iconst (-1), 1) := by decide +kernel
theorem dX9_best_11 : decode cX9_best 11 = .ok (.ireturn, 1) := by decide +kernel
theorem dX9_best_12 : decode cX9_best 12 = .ok (.iload_n 1, 1) := by decide +kernel
theorem dX9_best_13 : decode cX9_best 13 = .ok (.ifCond .ne 18, 3) := by decide +kernel
theorem dX9_best_16 : decode cX9_best 16 = .ok (.aload_n 0, 1) := by decide +kernel
theorem dX9_best_17 : decode cX9_best 17 = .ok (.getfield 40, 3) := by decide +kernel
theorem dX9_best_20 : decode cX9_best 20 = .ok (.aload_n 0, 1) := by decide +kernel
theorem dX9_best_21 : decode cX9_best 21 = .ok (.getfield 21, 3) := by decide +kernel
theorem dX9_best_24 : decode cX9_best 24 = .ok (.invokevirtual 129, 3) := by decide +kernel
theorem dX9_best_27 : decode cX9_best 27 = .ok (.invokevirtual 191, 3) := by decide +kernel
theorem dX9_best_30 : decode cX9_best 30 = .ok (.ireturn, 1) := by decide +kernel
theorem dX9_best_31 : decode cX9_best 31 = .ok (.iload_n 1, 1) := by decide +kernel
theorem dX9_best_32 : decode cX9_best 32 = .ok (.iconst 1, 1) := by decide +kernel
theorem dX9_best_33 : decode cX9_best 33 = .ok (.if_icmp .ne 18, 3) := by decide +kernel
theorem dX9_best_36 : decode cX9_best 36 = .ok (.aload_n 0, 1) := by decide +kernel
theorem dX9_best_37 : decode cX9_best 37 = .ok (.getfield 40, 3) := by decide +kernel
theorem dX9_best_40 : decode cX9_best 40 = .ok (.aload_n 0, 1) := by decide +kernel
theorem dX9_best_41 : decode cX9_best 41 = .ok (.getfield 21, 3) := by decide +kernel
theorem dX9_best_44 : decode cX9_best 44 = .ok (.invokevirtual 129, 3) := by decide +kernel
theorem dX9_best_47 : decode cX9_best 47 = .ok (.invokevirtual 194, 3) := by decide +kernel
theorem dX9_best_50 : decode cX9_best 50 = .ok (.ireturn, 1) := by decide +kernel
theorem dX9_best_51 : decode cX9_best 51 = .ok (.iload_n 1, 1) := by decide +kernel
theorem dX9_best_52 : decode cX9_best 52 = .ok (.bipush 10, 2) := by decide +kernel
theorem dX9_best_54 : decode cX9_best 54 = .ok (.if_icmp .lt 17, 3) := by decide +kernel
theorem dX9_best_57 : decode cX9_best 57 = .ok (.iload_n 1, 1) := by decide +kernel
theorem dX9_best_58 : decode cX9_best 58 = .ok (.bipush 10, 2) := by decide +kernel
theorem dX9_best_60 : decode cX9_best 60 = .ok (.aload_n 0, 1) := by decide +kernel
theorem dX9_best_61 : decode cX9_best 61 = .ok (.getfield 21, 3) := by decide +kernel
theorem dX9_best_64 : decode cX9_best 64 = .ok (.getfield 106, 3) := by decide +kernel
theorem dX9_best_67 : decode cX9_best 67 = .ok (.iadd, 1) := by decide +kernel
theorem dX9_best_68 : decode cX9_best 68 = .ok (.if_icmp .lt 5, 3) := by decide +kernel
theorem dX9_best_71 : decode cX9_best 71 = .ok (.iconst (-1), 1) := by decide +kernel
theorem dX9_best_72 : decode cX9_best 72 = .ok (.ireturn, 1) := by decide +kernel
theorem dX9_best_73 : decode cX9_best 73 = .ok (.aload_n 0, 1) := by decide +kernel
theorem dX9_best_74 : decode cX9_best 74 = .ok (.getfield 40, 3) := by decide +kernel
theorem dX9_best_77 : decode cX9_best 77 = .ok (.iload_n 1, 1) := by decide +kernel
theorem dX9_best_78 : decode cX9_best 78 = .ok (.bipush 10, 2) := by decide +kernel
theorem dX9_best_80 : decode cX9_best 80 = .ok (.isub, 1) := by decide +kernel
theorem dX9_best_81 : decode cX9_best 81 = .ok (.aload_n 0, 1) := by decide +kernel
theorem dX9_best_82 : decode cX9_best 82 = .ok (.getfield 21, 3) := by decide +kernel
theorem dX9_best_85 : decode cX9_best 85 = .ok (.invokevirtual 129, 3) := by decide +kernel
theorem dX9_best_88 : decode cX9_best 88 = .ok (.invokevirtual 197, 3) := by decide +kernel
theorem dX9_best_91 : decode cX9_best 91 = .ok (.ireturn, 1) := by decide +kernel
theorem dX9_byWins_0 : decode cX9_byWins 0 = .ok (.aload_n 0, 1) := by decide +kernel
theorem dX9_byWins_1 : decode cX9_byWins 1 = .ok (.getfield 21, 3) := by decide +kernel
theorem dX9_byWins_4 : decode cX9_byWins 4 = .ok (.getfield 106, 3) := by decide +kernel
theorem dX9_byWins_7 : decode cX9_byWins 7 = .ok (.ifCond .eq 12, 3) := by decide +kernel
theorem dX9_byWins_10 : decode cX9_byWins 10 = .ok (.iload_n 1, 1) := by decide +kernel
theorem dX9_byWins_11 : decode cX9_byWins 11 = .ok (.ifCond .lt 8, 3) := by decide +kernel
theorem dX9_byWins_14 : decode cX9_byWins 14 = .ok (.iload_n 1, 1) := by decide +kernel
theorem dX9_byWins_15 : decode cX9_byWins 15 = .ok (.iconst 1, 1) := by decide +kernel
theorem dX9_byWins_16 : decode cX9_byWins 16 = .ok (.if_icmp .le 5, 3) := by decide +kernel
theorem dX9_byWins_19 : decode cX9_byWins 19 = .ok (.iconst (-1), 1) := by decide +kernel
theorem dX9_byWins_20 : decode cX9_byWins 20 = .ok (.ireturn, 1) := by decide +kernel
theorem dX9_byWins_21 : decode cX9_byWins 21 = .ok (.aload_n 0, 1) := by decide +kernel
theorem dX9_byWins_22 : decode cX9_byWins 22 = .ok (.getfield 40, 3) := by decide +kernel
theorem dX9_byWins_25 : decode cX9_byWins 25 = .ok (.invokevirtual 200, 3) := by decide +kernel
theorem dX9_byWins_28 : decode cX9_byWins 28 = .ok (.istore_n 2, 1) := by decide +kernel
theorem dX9_byWins_29 : decode cX9_byWins 29 = .ok (.iload_n 1, 1) := by decide +kernel
theorem dX9_byWins_30 : decode cX9_byWins 30 = .ok (.ifCond .ne 7, 3) := by decide +kernel
theorem dX9_byWins_33 : decode cX9_byWins 33 = .ok (.iload_n 2, 1) := by decide +kernel
theorem dX9_byWins_34 : decode cX9_byWins 34 = .ok (.goto 19, 3) := by decide +kernel
theorem dX9_byWins_37 : decode cX9_byWins 37 = .ok (.iload_n 2, 1) := by decide +kernel
theorem dX9_byWins_38 : decode cX9_byWins 38 = .ok (.aload_n 0, 1) := by decide +kernel
theorem dX9_byWins_39 : decode cX9_byWins 39 = .ok (.getfield 40, 3) := by decide +kernel
theorem dX9_byWins_42 : decode cX9_byWins 42 = .ok (.aload_n 0, 1) := by decide +kernel
theorem dX9_byWins_43 : decode cX9_byWins 43 = .ok (.getfield 21, 3) := by decide +kernel
theorem dX9_byWins_46 : decode cX9_byWins 46 = .ok (.invokevirtual 129, 3) := by decide +kernel
theorem dX9_byWins_49 : decode cX9_byWins 49 = .ok (.invokevirtual 191, 3) := by decide +kernel
theorem dX9_byWins_52 : decode cX9_byWins 52 = .ok (.isub, 1) := by decide +kernel
theorem dX9_byWins_53 : decode cX9_byWins 53 = .ok (.ireturn, 1) := by decide +kernel
theorem dX9_weight_0 : decode cX9_weight 0 = .ok (.aload_n 0, 1) := by decide +kernel
theorem dX9_weight_1 : decode cX9_weight 1 = .ok (.getfield 21, 3) := by decide +kernel
theorem dX9_weight_4 : decode cX9_weight 4 = .ok (.iload_n 1, 1) := by decide +kernel
theorem dX9_weight_5 : decode cX9_weight 5 = .ok (.invokevirtual 115, 3) := by decide +kernel
theorem dX9_weight_8 : decode cX9_weight 8 = .ok (.ifCond .eq 12, 3) := by decide +kernel
theorem dX9_weight_11 : decode cX9_weight 11 = .ok (.iload_n 2, 1) := by decide +kernel
theorem dX9_weight_12 : decode cX9_weight 12 = .ok (.ifCond .lt 8, 3) := by decide +kernel
theorem dX9_weight_15 : decode cX9_weight 15 = .ok (.iload_n 2, 1) := by decide +kernel
theorem dX9_weight_16 : decode cX9_weight 16 = .ok (.iconst 1, 1) := by decide +kernel
theorem dX9_weight_17 : decode cX9_weight 17 = .ok (.if_icmp .le 6, 3) := by decide +kernel
theorem dX9_weight_20 : decode cX9_weight 20 = .ok (.ldc 203, 2) := by decide +kernel
theorem dX9_weight_22 : decode cX9_weight 22 = .ok (.ireturn, 1) := by decide +kernel
theorem dX9_weight_23 : decode cX9_weight 23 = .ok (.aload_n 0, 1) := by decide +kernel
theorem dX9_weight_24 : decode cX9_weight 24 = .ok (.getfield 47, 3) := by decide +kernel
theorem dX9_weight_27 : decode cX9_weight 27 = .ok (.aload_n 0, 1) := by decide +kernel
theorem dX9_weight_28 : decode cX9_weight 28 = .ok (.getfield 21, 3) := by decide +kernel
theorem dX9_weight_31 : decode cX9_weight 31 = .ok (.invokevirtual 129, 3) := by decide +kernel
theorem dX9_weight_34 : decode cX9_weight 34 = .ok (.invokevirtual 204, 3) := by decide +kernel
theorem dX9_weight_37 : decode cX9_weight 37 = .ok (.pop, 1) := by decide +kernel
theorem dX9_weight_38 : decode cX9_weight 38 = .ok (.iload_n 2, 1) := by decide +kernel
theorem dX9_weight_39 : decode cX9_weight 39 = .ok (.ifCond .ne 15, 3) := by decide +kernel
theorem dX9_weight_42 : decode cX9_weight 42 = .ok (.aload_n 0, 1) := by decide +kernel
theorem dX9_weight_43 : decode cX9_weight 43 = .ok (.getfield 47, 3) := by decide +kernel
theorem dX9_weight_46 : decode cX9_weight 46 = .ok (.getfield 207, 3) := by decide +kernel
theorem dX9_weight_49 : decode cX9_weight 49 = .ok (.iload_n 1, 1) := by decide +kernel
theorem dX9_weight_50 : decode cX9_weight 50 = .ok (.iaload, 1) := by decide +kernel
theorem dX9_weight_51 : decode cX9_weight 51 = .ok (.goto 18, 3) := by decide +kernel
theorem dX9_weight_54 : decode cX9_weight 54 = .ok (.aload_n 0, 1) := by decide +kernel
theorem dX9_weight_55 : decode cX9_weight 55 = .ok (.getfield 47, 3) := by decide +kernel
theorem dX9_weight_58 : decode cX9_weight 58 = .ok (.iload_n 1, 1) := by decide +kernel
theorem dX9_weight_59 : decode cX9_weight 59 = .ok (.aload_n 0, 1) := by decide +kernel
theorem dX9_weight_60 : decode cX9_weight 60 = .ok (.getfield 47, 3) := by decide +kernel
theorem dX9_weight_63 : decode cX9_weight 63 = .ok (.getfield 207, 3) := by decide +kernel
theorem dX9_weight_66 : decode cX9_weight 66 = .ok (.invokevirtual 210, 3) := by decide +kernel
theorem dX9_weight_69 : decode cX9_weight 69 = .ok (.ireturn, 1) := by decide +kernel
theorem dX9_keeps_0 : decode cX9_keeps 0 = .ok (.aload_n 0, 1) := by decide +kernel
theorem dX9_keeps_1 : decode cX9_keeps 1 = .ok (.getfield 21, 3) := by decide +kernel
theorem dX9_keeps_4 : decode cX9_keeps 4 = .ok (.iload_n 1, 1) := by decide +kernel
theorem dX9_keeps_5 : decode cX9_keeps 5 = .ok (.invokevirtual 115, 3) := by decide +kernel
theorem dX9_keeps_8 : decode cX9_keeps 8 = .ok (.ifCond .eq 14, 3) := by decide +kernel
theorem dX9_keeps_11 : decode cX9_keeps 11 = .ok (.aload_n 0, 1) := by decide +kernel
theorem dX9_keeps_12 : decode cX9_keeps 12 = .ok (.getfield 21, 3) := by decide +kernel
theorem dX9_keeps_15 : decode cX9_keeps 15 = .ok (.iload_n 2, 1) := by decide +kernel
theorem dX9_keeps_16 : decode cX9_keeps 16 = .ok (.invokevirtual 146, 3) := by decide +kernel
theorem dX9_keeps_19 : decode cX9_keeps 19 = .ok (.ifCond .ne 5, 3) := by decide +kernel
theorem dX9_keeps_22 : decode cX9_keeps 22 = .ok (.iconst (-1), 1) := by decide +kernel
theorem dX9_keeps_23 : decode cX9_keeps 23 = .ok (.ireturn, 1) := by decide +kernel
theorem dX9_keeps_24 : decode cX9_keeps 24 = .ok (.aload_n 0, 1) := by decide +kernel
theorem dX9_keeps_25 : decode cX9_keeps 25 = .ok (.getfield 63, 3) := by decide +kernel
theorem dX9_keeps_28 : decode cX9_keeps 28 = .ok (.bipush 8, 2) := by decide +kernel
theorem dX9_keeps_30 : decode cX9_keeps 30 = .ok (.aload_n 0, 1) := by decide +kernel
theorem dX9_keeps_31 : decode cX9_keeps 31 = .ok (.getfield 21, 3) := by decide +kernel
theorem dX9_keeps_34 : decode cX9_keeps 34 = .ok (.iload_n 1, 1) := by decide +kernel
theorem dX9_keeps_35 : decode cX9_keeps 35 = .ok (.iload_n 2, 1) := by decide +kernel
theorem dX9_keeps_36 : decode cX9_keeps 36 = .ok (.invokevirtual 139, 3) := by decide +kernel
theorem dX9_keeps_39 : decode cX9_keeps 39 = .ok (.invokevirtual 173, 3) := by decide +kernel
theorem dX9_keeps_42 : decode cX9_keeps 42 = .ok (.ireturn, 1) := by decide +kernel
theorem dX9_is_0 : decode cX9_is 0 = .ok (.aload_n 0, 1) := by decide +kernel
theorem dX9_is_1 : decode cX9_is 1 = .ok (.getfield 21, 3) := by decide +kernel
theorem dX9_is_4 : decode cX9_is 4 = .ok (.getfield 106, 3) := by decide +kernel
theorem dX9_is_7 : decode cX9_is 7 = .ok (.ifCond .eq 23, 3) := by decide +kernel
theorem dX9_is_10 : decode cX9_is 10 = .ok (.aload_n 0, 1) := by decide +kernel
theorem dX9_is_11 : decode cX9_is 11 = .ok (.getfield 21, 3) := by decide +kernel
theorem dX9_is_14 : decode cX9_is 14 = .ok (.iload_n 1, 1) := by decide +kernel
theorem dX9_is_15 : decode cX9_is 15 = .ok (.invokevirtual 146, 3) := by decide +kernel
theorem dX9_is_18 : decode cX9_is 18 = .ok (.ifCond .eq 12, 3) := by decide +kernel
theorem dX9_is_21 : decode cX9_is 21 = .ok (.iload_n 2, 1) := by decide +kernel
theorem dX9_is_22 : decode cX9_is 22 = .ok (.ifCond .lt 8, 3) := by decide +kernel
theorem dX9_is_25 : decode cX9_is 25 = .ok (.iload_n 2, 1) := by decide +kernel
theorem dX9_is_26 : decode cX9_is 26 = .ok (.iconst 1, 1) := by decide +kernel
theorem dX9_is_27 : decode cX9_is 27 = .ok (.if_icmp .le 5, 3) := by decide +kernel
theorem dX9_is_30 : decode cX9_is 30 = .ok (.iconst (-1), 1) := by decide +kernel
theorem dX9_is_31 : decode cX9_is 31 = .ok (.ireturn, 1) := by decide +kernel
theorem dX9_is_32 : decode cX9_is 32 = .ok (.iload_n 2, 1) := by decide +kernel
theorem dX9_is_33 : decode cX9_is 33 = .ok (.ifCond .ne 21, 3) := by decide +kernel
theorem dX9_is_36 : decode cX9_is 36 = .ok (.aload_n 0, 1) := by decide +kernel
theorem dX9_is_37 : decode cX9_is 37 = .ok (.getfield 63, 3) := by decide +kernel
theorem dX9_is_40 : decode cX9_is 40 = .ok (.iload_n 1, 1) := by decide +kernel
theorem dX9_is_41 : decode cX9_is 41 = .ok (.aload_n 0, 1) := by decide +kernel
theorem dX9_is_42 : decode cX9_is 42 = .ok (.getfield 21, 3) := by decide +kernel
theorem dX9_is_45 : decode cX9_is 45 = .ok (.invokevirtual 129, 3) := by decide +kernel
theorem dX9_is_48 : decode cX9_is 48 = .ok (.invokevirtual 214, 3) := by decide +kernel
theorem dX9_is_51 : decode cX9_is 51 = .ok (.goto 18, 3) := by decide +kernel
theorem dX9_is_54 : decode cX9_is 54 = .ok (.aload_n 0, 1) := by decide +kernel
theorem dX9_is_55 : decode cX9_is 55 = .ok (.getfield 63, 3) := by decide +kernel
theorem dX9_is_58 : decode cX9_is 58 = .ok (.iload_n 1, 1) := by decide +kernel
theorem dX9_is_59 : decode cX9_is 59 = .ok (.aload_n 0, 1) := by decide +kernel
theorem dX9_is_60 : decode cX9_is 60 = .ok (.getfield 21, 3) := by decide +kernel
theorem dX9_is_63 : decode cX9_is 63 = .ok (.invokevirtual 129, 3) := by decide +kernel
theorem dX9_is_66 : decode cX9_is 66 = .ok (.invokevirtual 217, 3) := by decide +kernel
theorem dX9_is_69 : decode cX9_is 69 = .ok (.istore_n 3, 1) := by decide +kernel
theorem dX9_is_70 : decode cX9_is 70 = .ok (.iload_n 3, 1) := by decide +kernel
theorem dX9_is_71 : decode cX9_is 71 = .ok (.ifCond .eq 7, 3) := by decide +kernel
theorem dX9_is_74 : decode cX9_is 74 = .ok (.iconst 1, 1) := by decide +kernel
theorem dX9_is_75 : decode cX9_is 75 = .ok (.goto 4, 3) := by decide +kernel
theorem dX9_is_78 : decode cX9_is 78 = .ok (.iconst 0, 1) := by decide +kernel
theorem dX9_is_79 : decode cX9_is 79 = .ok (.ireturn, 1) := by decide +kernel
theorem dX9_cup_0 : decode cX9_cup 0 = .ok (.aload_n 0, 1) := by decide +kernel
theorem dX9_cup_1 : decode cX9_cup 1 = .ok (.getfield 21, 3) := by decide +kernel
theorem dX9_cup_4 : decode cX9_cup 4 = .ok (.iload_n 1, 1) := by decide +kernel
theorem dX9_cup_5 : decode cX9_cup 5 = .ok (.invokevirtual 115, 3) := by decide +kernel
theorem dX9_cup_8 : decode cX9_cup 8 = .ok (.ifCond .eq 19, 3) := by decide +kernel
theorem dX9_cup_11 : decode cX9_cup 11 = .ok (.iload_n 2, 1) := by decide +kernel
theorem dX9_cup_12 : decode cX9_cup 12 = .ok (.iconst (-1), 1) := by decide +kernel
theorem dX9_cup_13 : decode cX9_cup 13 = .ok (.if_icmp .lt 14, 3) := by decide +kernel
theorem dX9_cup_16 : decode cX9_cup 16 = .ok (.iload_n 2, 1) := by decide +kernel
theorem dX9_cup_17 : decode cX9_cup 17 = .ok (.aload_n 0, 1) := by decide +kernel
theorem dX9_cup_18 : decode cX9_cup 18 = .ok (.getfield 21, 3) := by decide +kernel
theorem dX9_cup_21 : decode cX9_cup 21 = .ok (.getfield 106, 3) := by decide +kernel
theorem dX9_cup_24 : decode cX9_cup 24 = .ok (.if_icmp .lt 5, 3) := by decide +kernel
theorem dX9_cup_27 : decode cX9_cup 27 = .ok (.iconst (-1), 1) := by decide +kernel
theorem dX9_cup_28 : decode cX9_cup 28 = .ok (.ireturn, 1) := by decide +kernel
theorem dX9_cup_29 : decode cX9_cup 29 = .ok (.aload_n 0, 1) := by decide +kernel
theorem dX9_cup_30 : decode cX9_cup 30 = .ok (.getfield 54, 3) := by decide +kernel
theorem dX9_cup_33 : decode cX9_cup 33 = .ok (.aload_n 0, 1) := by decide +kernel
theorem dX9_cup_34 : decode cX9_cup 34 = .ok (.getfield 21, 3) := by decide +kernel
theorem dX9_cup_37 : decode cX9_cup 37 = .ok (.getfield 106, 3) := by decide +kernel
theorem dX9_cup_40 : decode cX9_cup 40 = .ok (.invokevirtual 220, 3) := by decide +kernel
theorem dX9_cup_43 : decode cX9_cup 43 = .ok (.ifCond .ne 6, 3) := by decide +kernel
theorem dX9_cup_46 : decode cX9_cup 46 = .ok (.bipush (-3), 2) := by decide +kernel
theorem dX9_cup_48 : decode cX9_cup 48 = .ok (.ireturn, 1) := by decide +kernel
theorem dX9_cup_49 : decode cX9_cup 49 = .ok (.iload_n 2, 1) := by decide +kernel
theorem dX9_cup_50 : decode cX9_cup 50 = .ok (.iconst (-1), 1) := by decide +kernel
theorem dX9_cup_51 : decode cX9_cup 51 = .ok (.if_icmp .ne 12, 3) := by decide +kernel
theorem dX9_cup_54 : decode cX9_cup 54 = .ok (.aload_n 0, 1) := by decide +kernel
theorem dX9_cup_55 : decode cX9_cup 55 = .ok (.getfield 54, 3) := by decide +kernel
theorem dX9_cup_58 : decode cX9_cup 58 = .ok (.iload_n 1, 1) := by decide +kernel
theorem dX9_cup_59 : decode cX9_cup 59 = .ok (.invokevirtual 223, 3) := by decide +kernel
theorem dX9_cup_62 : decode cX9_cup 62 = .ok (.ireturn, 1) := by decide +kernel
theorem dX9_cup_63 : decode cX9_cup 63 = .ok (.aload_n 0, 1) := by decide +kernel
theorem dX9_cup_64 : decode cX9_cup 64 = .ok (.getfield 54, 3) := by decide +kernel
theorem dX9_cup_67 : decode cX9_cup 67 = .ok (.iload_n 1, 1) := by decide +kernel
theorem dX9_cup_68 : decode cX9_cup 68 = .ok (.invokevirtual 226, 3) := by decide +kernel
theorem dX9_cup_71 : decode cX9_cup 71 = .ok (.istore_n 3, 1) := by decide +kernel
theorem dX9_cup_72 : decode cX9_cup 72 = .ok (.iload_n 3, 1) := by decide +kernel
theorem dX9_cup_73 : decode cX9_cup 73 = .ok (.iconst (-1), 1) := by decide +kernel
theorem dX9_cup_74 : decode cX9_cup 74 = .ok (.if_icmp .ne 6, 3) := by decide +kernel
theorem dX9_cup_77 : decode cX9_cup 77 = .ok (.bipush (-3), 2) := by decide +kernel
theorem dX9_cup_79 : decode cX9_cup 79 = .ok (.ireturn, 1) := by decide +kernel
theorem dX9_cup_80 : decode cX9_cup 80 = .ok (.aload_n 0, 1) := by decide +kernel
theorem dX9_cup_81 : decode cX9_cup 81 = .ok (.getfield 54, 3) := by decide +kernel
theorem dX9_cup_84 : decode cX9_cup 84 = .ok (.iload_n 3, 1) := by decide +kernel
theorem dX9_cup_85 : decode cX9_cup 85 = .ok (.iload_n 2, 1) := by decide +kernel
theorem dX9_cup_86 : decode cX9_cup 86 = .ok (.aload_n 0, 1) := by decide +kernel
theorem dX9_cup_87 : decode cX9_cup 87 = .ok (.getfield 21, 3) := by decide +kernel
theorem dX9_cup_90 : decode cX9_cup 90 = .ok (.getfield 106, 3) := by decide +kernel
theorem dX9_cup_93 : decode cX9_cup 93 = .ok (.invokevirtual 229, 3) := by decide +kernel
theorem dX9_cup_96 : decode cX9_cup 96 = .ok (.ireturn, 1) := by decide +kernel
theorem dX9_winner_0 : decode cX9_winner 0 = .ok (.aload_n 0, 1) := by decide +kernel
theorem dX9_winner_1 : decode cX9_winner 1 = .ok (.getfield 21, 3) := by decide +kernel
theorem dX9_winner_4 : decode cX9_winner 4 = .ok (.getfield 106, 3) := by decide +kernel
theorem dX9_winner_7 : decode cX9_winner 7 = .ok (.ifCond .eq 14, 3) := by decide +kernel
theorem dX9_winner_10 : decode cX9_winner 10 = .ok (.aload_n 0, 1) := by decide +kernel
theorem dX9_winner_11 : decode cX9_winner 11 = .ok (.getfield 21, 3) := by decide +kernel
theorem dX9_winner_14 : decode cX9_winner 14 = .ok (.iload_n 1, 1) := by decide +kernel
theorem dX9_winner_15 : decode cX9_winner 15 = .ok (.invokevirtual 146, 3) := by decide +kernel
theorem dX9_winner_18 : decode cX9_winner 18 = .ok (.ifCond .ne 5, 3) := by decide +kernel
theorem dX9_winner_21 : decode cX9_winner 21 = .ok (.iconst (-1), 1) := by decide +kernel
theorem dX9_winner_22 : decode cX9_winner 22 = .ok (.ireturn, 1) := by decide +kernel
theorem dX9_winner_23 : decode cX9_winner 23 = .ok (.aload_n 0, 1) := by decide +kernel
theorem dX9_winner_24 : decode cX9_winner 24 = .ok (.getfield 54, 3) := by decide +kernel
theorem dX9_winner_27 : decode cX9_winner 27 = .ok (.aload_n 0, 1) := by decide +kernel
theorem dX9_winner_28 : decode cX9_winner 28 = .ok (.getfield 21, 3) := by decide +kernel
theorem dX9_winner_31 : decode cX9_winner 31 = .ok (.getfield 106, 3) := by decide +kernel
theorem dX9_winner_34 : decode cX9_winner 34 = .ok (.invokevirtual 220, 3) := by decide +kernel
theorem dX9_winner_37 : decode cX9_winner 37 = .ok (.ifCond .ne 6, 3) := by decide +kernel
theorem dX9_winner_40 : decode cX9_winner 40 = .ok (.bipush (-3), 2) := by decide +kernel
theorem dX9_winner_42 : decode cX9_winner 42 = .ok (.ireturn, 1) := by decide +kernel
theorem dX9_winner_43 : decode cX9_winner 43 = .ok (.aload_n 0, 1) := by decide +kernel
theorem dX9_winner_44 : decode cX9_winner 44 = .ok (.getfield 54, 3) := by decide +kernel
theorem dX9_winner_47 : decode cX9_winner 47 = .ok (.iload_n 1, 1) := by decide +kernel
theorem dX9_winner_48 : decode cX9_winner 48 = .ok (.invokevirtual 233, 3) := by decide +kernel
theorem dX9_winner_51 : decode cX9_winner 51 = .ok (.ireturn, 1) := by decide +kernel
theorem dX9_judge_0 : decode cX9_judge 0 = .ok (.aload_n 0, 1) := by decide +kernel
theorem dX9_judge_1 : decode cX9_judge 1 = .ok (.getfield 21, 3) := by decide +kernel
theorem dX9_judge_4 : decode cX9_judge 4 = .ok (.getfield 106, 3) := by decide +kernel
theorem dX9_judge_7 : decode cX9_judge 7 = .ok (.ifCond .ne 15, 3) := by decide +kernel
theorem dX9_judge_10 : decode cX9_judge 10 = .ok (.aload_n 0, 1) := by decide +kernel
theorem dX9_judge_11 : decode cX9_judge 11 = .ok (.getfield 14, 3) := by decide +kernel
theorem dX9_judge_14 : decode cX9_judge 14 = .ok (.iconst 0, 1) := by decide +kernel
theorem dX9_judge_15 : decode cX9_judge 15 = .ok (.invokevirtual 91, 3) := by decide +kernel
theorem dX9_judge_18 : decode cX9_judge 18 = .ok (.pop, 1) := by decide +kernel
theorem dX9_judge_19 : decode cX9_judge 19 = .ok (.bipush (-2), 2) := by decide +kernel
theorem dX9_judge_21 : decode cX9_judge 21 = .ok (.ireturn, 1) := by decide +kernel
theorem dX9_judge_22 : decode cX9_judge 22 = .ok (.aload_n 0, 1) := by decide +kernel
theorem dX9_judge_23 : decode cX9_judge 23 = .ok (.getfield 72, 3) := by decide +kernel
theorem dX9_judge_26 : decode cX9_judge 26 = .ok (.invokevirtual 236, 3) := by decide +kernel
theorem dX9_judge_29 : decode cX9_judge 29 = .ok (.istore_n 1, 1) := by decide +kernel
theorem dX9_judge_30 : decode cX9_judge 30 = .ok (.aload_n 0, 1) := by decide +kernel
theorem dX9_judge_31 : decode cX9_judge 31 = .ok (.getfield 14, 3) := by decide +kernel
theorem dX9_judge_34 : decode cX9_judge 34 = .ok (.iconst 0, 1) := by decide +kernel
theorem dX9_judge_35 : decode cX9_judge 35 = .ok (.invokevirtual 91, 3) := by decide +kernel
theorem dX9_judge_38 : decode cX9_judge 38 = .ok (.pop, 1) := by decide +kernel
theorem dX9_judge_39 : decode cX9_judge 39 = .ok (.iload_n 1, 1) := by decide +kernel
theorem dX9_judge_40 : decode cX9_judge 40 = .ok (.iconst (-1), 1) := by decide +kernel
theorem dX9_judge_41 : decode cX9_judge 41 = .ok (.if_icmp .eq 9, 3) := by decide +kernel
theorem dX9_judge_44 : decode cX9_judge 44 = .ok (.sipush (-1000), 3) := by decide +kernel
theorem dX9_judge_47 : decode cX9_judge 47 = .ok (.iload_n 1, 1) := by decide +kernel
theorem dX9_judge_48 : decode cX9_judge 48 = .ok (.isub, 1) := by decide +kernel
theorem dX9_judge_49 : decode cX9_judge 49 = .ok (.ireturn, 1) := by decide +kernel
theorem dX9_judge_50 : decode cX9_judge 50 = .ok (.aload_n 0, 1) := by decide +kernel
theorem dX9_judge_51 : decode cX9_judge 51 = .ok (.getfield 72, 3) := by decide +kernel
theorem dX9_judge_54 : decode cX9_judge 54 = .ok (.invokevirtual 239, 3) := by decide +kernel
theorem dX9_judge_57 : decode cX9_judge 57 = .ok (.ireturn, 1) := by decide +kernel
theorem dX9_judged_0 : decode cX9_judged 0 = .ok (.aload_n 0, 1) := by decide +kernel
theorem dX9_judged_1 : decode cX9_judged 1 = .ok (.getfield 72, 3) := by decide +kernel
theorem dX9_judged_4 : decode cX9_judged 4 = .ok (.getfield 242, 3) := by decide +kernel
theorem dX9_judged_7 : decode cX9_judged 7 = .ok (.ifCond .ne 5, 3) := by decide +kernel
theorem dX9_judged_10 : decode cX9_judged 10 = .ok (.iconst (-1), 1) := by decide +kernel
theorem dX9_judged_11 : decode cX9_judged 11 = .ok (.ireturn, 1) := by decide +kernel
theorem dX9_judged_12 : decode cX9_judged 12 = .ok (.iload_n 1, 1) := by decide +kernel
theorem dX9_judged_13 : decode cX9_judged 13 = .ok (.tableswitch 63 0 3 #[31, 39, 47, 55], 31) := by decide +kernel
theorem dX9_judged_44 : decode cX9_judged 44 = .ok (.aload_n 0, 1) := by decide +kernel
theorem dX9_judged_45 : decode cX9_judged 45 = .ok (.getfield 72, 3) := by decide +kernel
theorem dX9_judged_48 : decode cX9_judged 48 = .ok (.getfield 246, 3) := by decide +kernel
theorem dX9_judged_51 : decode cX9_judged 51 = .ok (.ireturn, 1) := by decide +kernel
theorem dX9_judged_52 : decode cX9_judged 52 = .ok (.aload_n 0, 1) := by decide +kernel
theorem dX9_judged_53 : decode cX9_judged 53 = .ok (.getfield 72, 3) := by decide +kernel
theorem dX9_judged_56 : decode cX9_judged 56 = .ok (.getfield 249, 3) := by decide +kernel
theorem dX9_judged_59 : decode cX9_judged 59 = .ok (.ireturn, 1) := by decide +kernel
theorem dX9_judged_60 : decode cX9_judged 60 = .ok (.aload_n 0, 1) := by decide +kernel
theorem dX9_judged_61 : decode cX9_judged 61 = .ok (.getfield 72, 3) := by decide +kernel
theorem dX9_judged_64 : decode cX9_judged 64 = .ok (.getfield 252, 3) := by decide +kernel
theorem dX9_judged_67 : decode cX9_judged 67 = .ok (.ireturn, 1) := by decide +kernel
theorem dX9_judged_68 : decode cX9_judged 68 = .ok (.aload_n 0, 1) := by decide +kernel
theorem dX9_judged_69 : decode cX9_judged 69 = .ok (.getfield 72, 3) := by decide +kernel
theorem dX9_judged_72 : decode cX9_judged 72 = .ok (.getfield 255, 3) := by decide +kernel
theorem dX9_judged_75 : decode cX9_judged 75 = .ok (.ireturn, 1) := by decide +kernel
theorem dX9_judged_76 : decode cX9_judged 76 = .ok (.iconst (-1), 1) := by decide +kernel
theorem dX9_judged_77 : decode cX9_judged 77 = .ok (.ireturn, 1) := by decide +kernel
theorem dX9_fewest_0 : decode cX9_fewest 0 = .ok (.aload_n 0, 1) := by decide +kernel
theorem dX9_fewest_1 : decode cX9_fewest 1 = .ok (.getfield 21, 3) := by decide +kernel
theorem dX9_fewest_4 : decode cX9_fewest 4 = .ok (.iload_n 1, 1) := by decide +kernel
theorem dX9_fewest_5 : decode cX9_fewest 5 = .ok (.invokevirtual 115, 3) := by decide +kernel
theorem dX9_fewest_8 : decode cX9_fewest 8 = .ok (.ifCond .eq 10, 3) := by decide +kernel
theorem dX9_fewest_11 : decode cX9_fewest 11 = .ok (.iload_n 2, 1) := by decide +kernel
theorem dX9_fewest_12 : decode cX9_fewest 12 = .ok (.invokestatic 170, 3) := by decide +kernel
theorem dX9_fewest_15 : decode cX9_fewest 15 = .ok (.ifCond .ne 5, 3) := by decide +kernel
theorem dX9_fewest_18 : decode cX9_fewest 18 = .ok (.iconst (-1), 1) := by decide +kernel
theorem dX9_fewest_19 : decode cX9_fewest 19 = .ok (.ireturn, 1) := by decide +kernel
theorem dX9_fewest_20 : decode cX9_fewest 20 = .ok (.iconst 0, 1) := by decide +kernel
theorem dX9_fewest_21 : decode cX9_fewest 21 = .ok (.istore_n 3, 1) := by decide +kernel
theorem dX9_fewest_22 : decode cX9_fewest 22 = .ok (.iload_n 3, 1) := by decide +kernel
theorem dX9_fewest_23 : decode cX9_fewest 23 = .ok (.iconst 2, 1) := by decide +kernel
theorem dX9_fewest_24 : decode cX9_fewest 24 = .ok (.if_icmp .gt 22, 3) := by decide +kernel
theorem dX9_fewest_27 : decode cX9_fewest 27 = .ok (.aload_n 0, 1) := by decide +kernel
theorem dX9_fewest_28 : decode cX9_fewest 28 = .ok (.iload_n 1, 1) := by decide +kernel
theorem dX9_fewest_29 : decode cX9_fewest 29 = .ok (.iload_n 2, 1) := by decide +kernel
theorem dX9_fewest_30 : decode cX9_fewest 30 = .ok (.iload_n 3, 1) := by decide +kernel
theorem dX9_fewest_31 : decode cX9_fewest 31 = .ok (.iconst 0, 1) := by decide +kernel
theorem dX9_fewest_32 : decode cX9_fewest 32 = .ok (.invokevirtual 258, 3) := by decide +kernel
theorem dX9_fewest_35 : decode cX9_fewest 35 = .ok (.ifCond .eq 5, 3) := by decide +kernel
theorem dX9_fewest_38 : decode cX9_fewest 38 = .ok (.iload_n 3, 1) := by decide +kernel
theorem dX9_fewest_39 : decode cX9_fewest 39 = .ok (.ireturn, 1) := by decide +kernel
theorem dX9_fewest_40 : decode cX9_fewest 40 = .ok (.iinc 3 1, 3) := by decide +kernel
theorem dX9_fewest_43 : decode cX9_fewest 43 = .ok (.goto (-21), 3) := by decide +kernel
theorem dX9_fewest_46 : decode cX9_fewest 46 = .ok (.bipush (-2), 2) := by decide +kernel
theorem dX9_fewest_48 : decode cX9_fewest 48 = .ok (.ireturn, 1) := by decide +kernel
theorem dX9_selves_0 : decode cX9_selves 0 = .ok (.aload_n 0, 1) := by decide +kernel
theorem dX9_selves_1 : decode cX9_selves 1 = .ok (.getfield 21, 3) := by decide +kernel
theorem dX9_selves_4 : decode cX9_selves 4 = .ok (.getfield 106, 3) := by decide +kernel
theorem dX9_selves_7 : decode cX9_selves 7 = .ok (.ifCond .ne 5, 3) := by decide +kernel
theorem dX9_selves_10 : decode cX9_selves 10 = .ok (.iconst (-1), 1) := by decide +kernel
theorem dX9_selves_11 : decode cX9_selves 11 = .ok (.ireturn, 1) := by decide +kernel
theorem dX9_selves_12 : decode cX9_selves 12 = .ok (.aload_n 0, 1) := by decide +kernel
theorem dX9_selves_13 : decode cX9_selves 13 = .ok (.getfield 79, 3) := by decide +kernel
theorem dX9_selves_16 : decode cX9_selves 16 = .ok (.aload_n 0, 1) := by decide +kernel
theorem dX9_selves_17 : decode cX9_selves 17 = .ok (.getfield 21, 3) := by decide +kernel
theorem dX9_selves_20 : decode cX9_selves 20 = .ok (.aload_n 0, 1) := by decide +kernel
theorem dX9_selves_21 : decode cX9_selves 21 = .ok (.getfield 21, 3) := by decide +kernel
theorem dX9_selves_24 : decode cX9_selves 24 = .ok (.invokevirtual 262, 3) := by decide +kernel
theorem dX9_selves_27 : decode cX9_selves 27 = .ok (.ireturn, 1) := by decide +kernel
theorem dX9_undo_0 : decode cX9_undo 0 = .ok (.aload_n 0, 1) := by decide +kernel
theorem dX9_undo_1 : decode cX9_undo 1 = .ok (.getfield 21, 3) := by decide +kernel
theorem dX9_undo_4 : decode cX9_undo 4 = .ok (.getfield 106, 3) := by decide +kernel
theorem dX9_undo_7 : decode cX9_undo 7 = .ok (.ifCond .ne 6, 3) := by decide +kernel
theorem dX9_undo_10 : decode cX9_undo 10 = .ok (.bipush (-2), 2) := by decide +kernel
theorem dX9_undo_12 : decode cX9_undo 12 = .ok (.ireturn, 1) := by decide +kernel
theorem dX9_undo_13 : decode cX9_undo 13 = .ok (.aload_n 0, 1) := by decide +kernel
theorem dX9_undo_14 : decode cX9_undo 14 = .ok (.getfield 31, 3) := by decide +kernel
theorem dX9_undo_17 : decode cX9_undo 17 = .ok (.getfield 266, 3) := by decide +kernel
theorem dX9_undo_20 : decode cX9_undo 20 = .ok (.ifCond .ne 6, 3) := by decide +kernel
theorem dX9_undo_23 : decode cX9_undo 23 = .ok (.bipush (-3), 2) := by decide +kernel
theorem dX9_undo_25 : decode cX9_undo 25 = .ok (.ireturn, 1) := by decide +kernel
theorem dX9_undo_26 : decode cX9_undo 26 = .ok (.aload_n 0, 1) := by decide +kernel
theorem dX9_undo_27 : decode cX9_undo 27 = .ok (.getfield 21, 3) := by decide +kernel
theorem dX9_undo_30 : decode cX9_undo 30 = .ok (.aload_n 0, 1) := by decide +kernel
theorem dX9_undo_31 : decode cX9_undo 31 = .ok (.getfield 31, 3) := by decide +kernel
theorem dX9_undo_34 : decode cX9_undo 34 = .ok (.invokevirtual 269, 3) := by decide +kernel
theorem dX9_undo_37 : decode cX9_undo 37 = .ok (.invokevirtual 272, 3) := by decide +kernel
theorem dX9_undo_40 : decode cX9_undo 40 = .ok (.aload_n 0, 1) := by decide +kernel
theorem dX9_undo_41 : decode cX9_undo 41 = .ok (.getfield 31, 3) := by decide +kernel
theorem dX9_undo_44 : decode cX9_undo 44 = .ok (.getfield 266, 3) := by decide +kernel
theorem dX9_undo_47 : decode cX9_undo 47 = .ok (.ireturn, 1) := by decide +kernel
theorem dX9_keep_0 : decode cX9_keep 0 = .ok (.aload_n 0, 1) := by decide +kernel
theorem dX9_keep_1 : decode cX9_keep 1 = .ok (.getfield 21, 3) := by decide +kernel
theorem dX9_keep_4 : decode cX9_keep 4 = .ok (.getfield 106, 3) := by decide +kernel
theorem dX9_keep_7 : decode cX9_keep 7 = .ok (.ifCond .eq 12, 3) := by decide +kernel
theorem dX9_keep_10 : decode cX9_keep 10 = .ok (.iload_n 1, 1) := by decide +kernel
theorem dX9_keep_11 : decode cX9_keep 11 = .ok (.ifCond .lt 8, 3) := by decide +kernel
theorem dX9_keep_14 : decode cX9_keep 14 = .ok (.iload_n 1, 1) := by decide +kernel
theorem dX9_keep_15 : decode cX9_keep 15 = .ok (.iconst 2, 1) := by decide +kernel
theorem dX9_keep_16 : decode cX9_keep 16 = .ok (.if_icmp .lt 5, 3) := by decide +kernel
theorem dX9_keep_19 : decode cX9_keep 19 = .ok (.iconst 0, 1) := by decide +kernel
theorem dX9_keep_20 : decode cX9_keep 20 = .ok (.ireturn, 1) := by decide +kernel
theorem dX9_keep_21 : decode cX9_keep 21 = .ok (.aload_n 0, 1) := by decide +kernel
theorem dX9_keep_22 : decode cX9_keep 22 = .ok (.getfield 31, 3) := by decide +kernel
theorem dX9_keep_25 : decode cX9_keep 25 = .ok (.getfield 275, 3) := by decide +kernel
theorem dX9_keep_28 : decode cX9_keep 28 = .ok (.iload_n 1, 1) := by decide +kernel
theorem dX9_keep_29 : decode cX9_keep 29 = .ok (.aload_n 0, 1) := by decide +kernel
theorem dX9_keep_30 : decode cX9_keep 30 = .ok (.getfield 21, 3) := by decide +kernel
theorem dX9_keep_33 : decode cX9_keep 33 = .ok (.invokevirtual 149, 3) := by decide +kernel
theorem dX9_keep_36 : decode cX9_keep 36 = .ok (.lastore, 1) := by decide +kernel
theorem dX9_keep_37 : decode cX9_keep 37 = .ok (.iconst 1, 1) := by decide +kernel
theorem dX9_keep_38 : decode cX9_keep 38 = .ok (.ireturn, 1) := by decide +kernel
theorem dX9_again_0 : decode cX9_again 0 = .ok (.aload_n 0, 1) := by decide +kernel
theorem dX9_again_1 : decode cX9_again 1 = .ok (.getfield 31, 3) := by decide +kernel
theorem dX9_again_4 : decode cX9_again 4 = .ok (.iload_n 1, 1) := by decide +kernel
theorem dX9_again_5 : decode cX9_again 5 = .ok (.invokevirtual 279, 3) := by decide +kernel
theorem dX9_again_8 : decode cX9_again 8 = .ok (.ifCond .ne 5, 3) := by decide +kernel
theorem dX9_again_11 : decode cX9_again 11 = .ok (.iconst 0, 1) := by decide +kernel
theorem dX9_again_12 : decode cX9_again 12 = .ok (.ireturn, 1) := by decide +kernel
theorem dX9_again_13 : decode cX9_again 13 = .ok (.aload_n 0, 1) := by decide +kernel
theorem dX9_again_14 : decode cX9_again 14 = .ok (.getfield 31, 3) := by decide +kernel
theorem dX9_again_17 : decode cX9_again 17 = .ok (.aload_n 0, 1) := by decide +kernel
theorem dX9_again_18 : decode cX9_again 18 = .ok (.getfield 21, 3) := by decide +kernel
theorem dX9_again_21 : decode cX9_again 21 = .ok (.invokevirtual 149, 3) := by decide +kernel
theorem dX9_again_24 : decode cX9_again 24 = .ok (.invokevirtual 153, 3) := by decide +kernel
theorem dX9_again_27 : decode cX9_again 27 = .ok (.aload_n 0, 1) := by decide +kernel
theorem dX9_again_28 : decode cX9_again 28 = .ok (.getfield 21, 3) := by decide +kernel
theorem dX9_again_31 : decode cX9_again 31 = .ok (.aload_n 0, 1) := by decide +kernel
theorem dX9_again_32 : decode cX9_again 32 = .ok (.getfield 31, 3) := by decide +kernel
theorem dX9_again_35 : decode cX9_again 35 = .ok (.getfield 275, 3) := by decide +kernel
theorem dX9_again_38 : decode cX9_again 38 = .ok (.iload_n 1, 1) := by decide +kernel
theorem dX9_again_39 : decode cX9_again 39 = .ok (.laload, 1) := by decide +kernel
theorem dX9_again_40 : decode cX9_again 40 = .ok (.invokevirtual 272, 3) := by decide +kernel
theorem dX9_again_43 : decode cX9_again 43 = .ok (.iconst 1, 1) := by decide +kernel
theorem dX9_again_44 : decode cX9_again 44 = .ok (.ireturn, 1) := by decide +kernel
theorem dX9_alike_0 : decode cX9_alike 0 = .ok (.aload_n 0, 1) := by decide +kernel
theorem dX9_alike_1 : decode cX9_alike 1 = .ok (.getfield 31, 3) := by decide +kernel
theorem dX9_alike_4 : decode cX9_alike 4 = .ok (.iload_n 1, 1) := by decide +kernel
theorem dX9_alike_5 : decode cX9_alike 5 = .ok (.invokevirtual 279, 3) := by decide +kernel
theorem dX9_alike_8 : decode cX9_alike 8 = .ok (.ifCond .eq 12, 3) := by decide +kernel
theorem dX9_alike_11 : decode cX9_alike 11 = .ok (.iload_n 2, 1) := by decide +kernel
theorem dX9_alike_12 : decode cX9_alike 12 = .ok (.ifCond .lt 8, 3) := by decide +kernel
theorem dX9_alike_15 : decode cX9_alike 15 = .ok (.iload_n 2, 1) := by decide +kernel
theorem dX9_alike_16 : decode cX9_alike 16 = .ok (.iconst 1, 1) := by decide +kernel
theorem dX9_alike_17 : decode cX9_alike 17 = .ok (.if_icmp .le 5, 3) := by decide +kernel
theorem dX9_alike_20 : decode cX9_alike 20 = .ok (.iconst (-1), 1) := by decide +kernel
theorem dX9_alike_21 : decode cX9_alike 21 = .ok (.ireturn, 1) := by decide +kernel
theorem dX9_alike_22 : decode cX9_alike 22 = .ok (.aload_n 0, 1) := by decide +kernel
theorem dX9_alike_23 : decode cX9_alike 23 = .ok (.getfield 25, 3) := by decide +kernel
theorem dX9_alike_26 : decode cX9_alike 26 = .ok (.aload_n 0, 1) := by decide +kernel
theorem dX9_alike_27 : decode cX9_alike 27 = .ok (.getfield 31, 3) := by decide +kernel
theorem dX9_alike_30 : decode cX9_alike 30 = .ok (.getfield 275, 3) := by decide +kernel
theorem dX9_alike_33 : decode cX9_alike 33 = .ok (.iload_n 1, 1) := by decide +kernel
theorem dX9_alike_34 : decode cX9_alike 34 = .ok (.laload, 1) := by decide +kernel
theorem dX9_alike_35 : decode cX9_alike 35 = .ok (.invokevirtual 272, 3) := by decide +kernel
theorem dX9_alike_38 : decode cX9_alike 38 = .ok (.iload_n 2, 1) := by decide +kernel
theorem dX9_alike_39 : decode cX9_alike 39 = .ok (.ifCond .ne 27, 3) := by decide +kernel
theorem dX9_alike_42 : decode cX9_alike 42 = .ok (.aload_n 0, 1) := by decide +kernel
theorem dX9_alike_43 : decode cX9_alike 43 = .ok (.getfield 79, 3) := by decide +kernel
theorem dX9_alike_46 : decode cX9_alike 46 = .ok (.aload_n 0, 1) := by decide +kernel
theorem dX9_alike_47 : decode cX9_alike 47 = .ok (.getfield 21, 3) := by decide +kernel
theorem dX9_alike_50 : decode cX9_alike 50 = .ok (.aload_n 0, 1) := by decide +kernel
theorem dX9_alike_51 : decode cX9_alike 51 = .ok (.getfield 25, 3) := by decide +kernel
theorem dX9_alike_54 : decode cX9_alike 54 = .ok (.invokevirtual 262, 3) := by decide +kernel
theorem dX9_alike_57 : decode cX9_alike 57 = .ok (.ifCond .le 7, 3) := by decide +kernel
theorem dX9_alike_60 : decode cX9_alike 60 = .ok (.iconst 1, 1) := by decide +kernel
theorem dX9_alike_61 : decode cX9_alike 61 = .ok (.goto 4, 3) := by decide +kernel
theorem dX9_alike_64 : decode cX9_alike 64 = .ok (.iconst 0, 1) := by decide +kernel
theorem dX9_alike_65 : decode cX9_alike 65 = .ok (.ireturn, 1) := by decide +kernel
theorem dX9_alike_66 : decode cX9_alike 66 = .ok (.aload_n 0, 1) := by decide +kernel
theorem dX9_alike_67 : decode cX9_alike 67 = .ok (.getfield 21, 3) := by decide +kernel
theorem dX9_alike_70 : decode cX9_alike 70 = .ok (.aload_n 0, 1) := by decide +kernel
theorem dX9_alike_71 : decode cX9_alike 71 = .ok (.getfield 25, 3) := by decide +kernel
theorem dX9_alike_74 : decode cX9_alike 74 = .ok (.invokevirtual 282, 3) := by decide +kernel
theorem dX9_alike_77 : decode cX9_alike 77 = .ok (.ireturn, 1) := by decide +kernel
theorem dX9_count_0 : decode cX9_count 0 = .ok (.iload_n 1, 1) := by decide +kernel
theorem dX9_count_1 : decode cX9_count 1 = .ok (.tableswitch 94 0 5 #[39, 47, 55, 63, 71, 79], 39) := by decide +kernel
theorem dX9_count_40 : decode cX9_count 40 = .ok (.aload_n 0, 1) := by decide +kernel
theorem dX9_count_41 : decode cX9_count 41 = .ok (.getfield 21, 3) := by decide +kernel
theorem dX9_count_44 : decode cX9_count 44 = .ok (.getfield 106, 3) := by decide +kernel
theorem dX9_count_47 : decode cX9_count 47 = .ok (.ireturn, 1) := by decide +kernel
theorem dX9_count_48 : decode cX9_count 48 = .ok (.aload_n 0, 1) := by decide +kernel
theorem dX9_count_49 : decode cX9_count 49 = .ok (.getfield 21, 3) := by decide +kernel
theorem dX9_count_52 : decode cX9_count 52 = .ok (.invokevirtual 286, 3) := by decide +kernel
theorem dX9_count_55 : decode cX9_count 55 = .ok (.ireturn, 1) := by decide +kernel
theorem dX9_count_56 : decode cX9_count 56 = .ok (.aload_n 0, 1) := by decide +kernel
theorem dX9_count_57 : decode cX9_count 57 = .ok (.getfield 21, 3) := by decide +kernel
theorem dX9_count_60 : decode cX9_count 60 = .ok (.invokevirtual 289, 3) := by decide +kernel
theorem dX9_count_63 : decode cX9_count 63 = .ok (.ireturn, 1) := by decide +kernel
theorem dX9_count_64 : decode cX9_count 64 = .ok (.aload_n 0, 1) := by decide +kernel
theorem dX9_count_65 : decode cX9_count 65 = .ok (.getfield 14, 3) := by decide +kernel
theorem dX9_count_68 : decode cX9_count 68 = .ok (.getfield 292, 3) := by decide +kernel
theorem dX9_count_71 : decode cX9_count 71 = .ok (.ireturn, 1) := by decide +kernel
theorem dX9_count_72 : decode cX9_count 72 = .ok (.aload_n 0, 1) := by decide +kernel
theorem dX9_count_73 : decode cX9_count 73 = .ok (.getfield 31, 3) := by decide +kernel
theorem dX9_count_76 : decode cX9_count 76 = .ok (.getfield 266, 3) := by decide +kernel
theorem dX9_count_79 : decode cX9_count 79 = .ok (.ireturn, 1) := by decide +kernel
theorem dX9_count_80 : decode cX9_count 80 = .ok (.aload_n 0, 1) := by decide +kernel
theorem dX9_count_81 : decode cX9_count 81 = .ok (.getfield 21, 3) := by decide +kernel
theorem dX9_count_84 : decode cX9_count 84 = .ok (.aload_n 0, 1) := by decide +kernel
theorem dX9_count_85 : decode cX9_count 85 = .ok (.getfield 21, 3) := by decide +kernel
theorem dX9_count_88 : decode cX9_count 88 = .ok (.invokevirtual 129, 3) := by decide +kernel
theorem dX9_count_91 : decode cX9_count 91 = .ok (.invokevirtual 295, 3) := by decide +kernel
theorem dX9_count_94 : decode cX9_count 94 = .ok (.ireturn, 1) := by decide +kernel
theorem dX9_count_95 : decode cX9_count 95 = .ok (.iconst (-1), 1) := by decide +kernel
theorem dX9_count_96 : decode cX9_count 96 = .ok (.ireturn, 1) := by decide +kernel
theorem dX9_isKind_0 : decode cX9_isKind 0 = .ok (.iload_n 0, 1) := by decide +kernel
theorem dX9_isKind_1 : decode cX9_isKind 1 = .ok (.ifCond .lt 13, 3) := by decide +kernel
theorem dX9_isKind_4 : decode cX9_isKind 4 = .ok (.iload_n 0, 1) := by decide +kernel
theorem dX9_isKind_5 : decode cX9_isKind 5 = .ok (.bipush 10, 2) := by decide +kernel
theorem dX9_isKind_7 : decode cX9_isKind 7 = .ok (.if_icmp .ge 7, 3) := by decide +kernel
theorem dX9_isKind_10 : decode cX9_isKind 10 = .ok (.iconst 1, 1) := by decide +kernel
theorem dX9_isKind_11 : decode cX9_isKind 11 = .ok (.goto 4, 3) := by decide +kernel
theorem dX9_isKind_14 : decode cX9_isKind 14 = .ok (.iconst 0, 1) := by decide +kernel
theorem dX9_isKind_15 : decode cX9_isKind 15 = .ok (.ireturn, 1) := by decide +kernel
theorem dX9_bitOf_0 : decode cX9_bitOf 0 = .ok (.iload_n 0, 1) := by decide +kernel
theorem dX9_bitOf_1 : decode cX9_bitOf 1 = .ok (.iload_n 1, 1) := by decide +kernel
theorem dX9_bitOf_2 : decode cX9_bitOf 2 = .ok (.ishr, 1) := by decide +kernel
theorem dX9_bitOf_3 : decode cX9_bitOf 3 = .ok (.iconst 1, 1) := by decide +kernel
theorem dX9_bitOf_4 : decode cX9_bitOf 4 = .ok (.iand, 1) := by decide +kernel
theorem dX9_bitOf_5 : decode cX9_bitOf 5 = .ok (.ireturn, 1) := by decide +kernel
theorem dX9_lowestOf_0 : decode cX9_lowestOf 0 = .ok (.iconst 0, 1) := by decide +kernel
theorem dX9_lowestOf_1 : decode cX9_lowestOf 1 = .ok (.istore_n 1, 1) := by decide +kernel
theorem dX9_lowestOf_2 : decode cX9_lowestOf 2 = .ok (.iload_n 1, 1) := by decide +kernel
theorem dX9_lowestOf_3 : decode cX9_lowestOf 3 = .ok (.bipush 8, 2) := by decide +kernel
theorem dX9_lowestOf_5 : decode cX9_lowestOf 5 = .ok (.if_icmp .ge 20, 3) := by decide +kernel
theorem dX9_lowestOf_8 : decode cX9_lowestOf 8 = .ok (.iload_n 0, 1) := by decide +kernel
theorem dX9_lowestOf_9 : decode cX9_lowestOf 9 = .ok (.iload_n 1, 1) := by decide +kernel
theorem dX9_lowestOf_10 : decode cX9_lowestOf 10 = .ok (.invokestatic 176, 3) := by decide +kernel
theorem dX9_lowestOf_13 : decode cX9_lowestOf 13 = .ok (.iconst 1, 1) := by decide +kernel
theorem dX9_lowestOf_14 : decode cX9_lowestOf 14 = .ok (.if_icmp .ne 5, 3) := by decide +kernel
theorem dX9_lowestOf_17 : decode cX9_lowestOf 17 = .ok (.iload_n 1, 1) := by decide +kernel
theorem dX9_lowestOf_18 : decode cX9_lowestOf 18 = .ok (.ireturn, 1) := by decide +kernel
theorem dX9_lowestOf_19 : decode cX9_lowestOf 19 = .ok (.iinc 1 1, 3) := by decide +kernel
theorem dX9_lowestOf_22 : decode cX9_lowestOf 22 = .ok (.goto (-20), 3) := by decide +kernel
theorem dX9_lowestOf_25 : decode cX9_lowestOf 25 = .ok (.iconst (-1), 1) := by decide +kernel
theorem dX9_lowestOf_26 : decode cX9_lowestOf 26 = .ok (.ireturn, 1) := by decide +kernel
theorem dX9_startWithSpare_0 : decode cX9_startWithSpare 0 = .ok (.aload_n 0, 1) := by decide +kernel
theorem dX9_startWithSpare_1 : decode cX9_startWithSpare 1 = .ok (.getfield 21, 3) := by decide +kernel
theorem dX9_startWithSpare_4 : decode cX9_startWithSpare 4 = .ok (.aload_n 0, 1) := by decide +kernel
theorem dX9_startWithSpare_5 : decode cX9_startWithSpare 5 = .ok (.getfield 25, 3) := by decide +kernel
theorem dX9_startWithSpare_8 : decode cX9_startWithSpare 8 = .ok (.invokevirtual 149, 3) := by decide +kernel
theorem dX9_startWithSpare_11 : decode cX9_startWithSpare 11 = .ok (.invokevirtual 272, 3) := by decide +kernel
theorem dX9_startWithSpare_14 : decode cX9_startWithSpare 14 = .ok (.aload_n 0, 1) := by decide +kernel
theorem dX9_startWithSpare_15 : decode cX9_startWithSpare 15 = .ok (.getfield 31, 3) := by decide +kernel
theorem dX9_startWithSpare_18 : decode cX9_startWithSpare 18 = .ok (.invokevirtual 298, 3) := by decide +kernel
theorem dX9_startWithSpare_21 : decode cX9_startWithSpare 21 = .ok (.aload_n 0, 1) := by decide +kernel
theorem dX9_startWithSpare_22 : decode cX9_startWithSpare 22 = .ok (.getfield 21, 3) := by decide +kernel
theorem dX9_startWithSpare_25 : decode cX9_startWithSpare 25 = .ok (.getfield 106, 3) := by decide +kernel
theorem dX9_startWithSpare_28 : decode cX9_startWithSpare 28 = .ok (.ireturn, 1) := by decide +kernel
theorem dX9_faultOfRound_0 : decode cX9_faultOfRound 0 = .ok (.aload_n 0, 1) := by decide +kernel
theorem dX9_faultOfRound_1 : decode cX9_faultOfRound 1 = .ok (.getfield 25, 3) := by decide +kernel
theorem dX9_faultOfRound_4 : decode cX9_faultOfRound 4 = .ok (.invokevirtual 103, 3) := by decide +kernel
theorem dX9_faultOfRound_7 : decode cX9_faultOfRound 7 = .ok (.aload_n 0, 1) := by decide +kernel
theorem dX9_faultOfRound_8 : decode cX9_faultOfRound 8 = .ok (.getfield 14, 3) := by decide +kernel
theorem dX9_faultOfRound_11 : decode cX9_faultOfRound 11 = .ok (.iconst 0, 1) := by decide +kernel
theorem dX9_faultOfRound_12 : decode cX9_faultOfRound 12 = .ok (.putfield 301, 3) := by decide +kernel
theorem dX9_faultOfRound_15 : decode cX9_faultOfRound 15 = .ok (.iconst 0, 1) := by decide +kernel
theorem dX9_faultOfRound_16 : decode cX9_faultOfRound 16 = .ok (.istore_n 1, 1) := by decide +kernel
theorem dX9_faultOfRound_17 : decode cX9_faultOfRound 17 = .ok (.iload_n 1, 1) := by decide +kernel
theorem dX9_faultOfRound_18 : decode cX9_faultOfRound 18 = .ok (.sipush 300, 3) := by decide +kernel
theorem dX9_faultOfRound_21 : decode cX9_faultOfRound 21 = .ok (.if_icmp .gt 52, 3) := by decide +kernel
theorem dX9_faultOfRound_24 : decode cX9_faultOfRound 24 = .ok (.aload_n 0, 1) := by decide +kernel
theorem dX9_faultOfRound_25 : decode cX9_faultOfRound 25 = .ok (.invokevirtual 304, 3) := by decide +kernel
theorem dX9_faultOfRound_28 : decode cX9_faultOfRound 28 = .ok (.ifCond .ne 11, 3) := by decide +kernel
theorem dX9_faultOfRound_31 : decode cX9_faultOfRound 31 = .ok (.aload_n 0, 1) := by decide +kernel
theorem dX9_faultOfRound_32 : decode cX9_faultOfRound 32 = .ok (.getfield 14, 3) := by decide +kernel
theorem dX9_faultOfRound_35 : decode cX9_faultOfRound 35 = .ok (.getfield 301, 3) := by decide +kernel
theorem dX9_faultOfRound_38 : decode cX9_faultOfRound 38 = .ok (.ireturn, 1) := by decide +kernel
theorem dX9_faultOfRound_39 : decode cX9_faultOfRound 39 = .ok (.aload_n 0, 1) := by decide +kernel
theorem dX9_faultOfRound_40 : decode cX9_faultOfRound 40 = .ok (.getfield 14, 3) := by decide +kernel
theorem dX9_faultOfRound_43 : decode cX9_faultOfRound 43 = .ok (.invokevirtual 308, 3) := by decide +kernel
theorem dX9_faultOfRound_46 : decode cX9_faultOfRound 46 = .ok (.bipush 59, 2) := by decide +kernel
theorem dX9_faultOfRound_48 : decode cX9_faultOfRound 48 = .ok (.if_icmp .eq 6, 3) := by decide +kernel
theorem dX9_faultOfRound_51 : decode cX9_faultOfRound 51 = .ok (.goto 22, 3) := by decide +kernel
theorem dX9_faultOfRound_54 : decode cX9_faultOfRound 54 = .ok (.aload_n 0, 1) := by decide +kernel
theorem dX9_faultOfRound_55 : decode cX9_faultOfRound 55 = .ok (.getfield 14, 3) := by decide +kernel
theorem dX9_faultOfRound_58 : decode cX9_faultOfRound 58 = .ok (.dup, 1) := by decide +kernel
theorem dX9_faultOfRound_59 : decode cX9_faultOfRound 59 = .ok (.getfield 301, 3) := by decide +kernel
theorem dX9_faultOfRound_62 : decode cX9_faultOfRound 62 = .ok (.iconst 1, 1) := by decide +kernel
theorem dX9_faultOfRound_63 : decode cX9_faultOfRound 63 = .ok (.iadd, 1) := by decide +kernel
theorem dX9_faultOfRound_64 : decode cX9_faultOfRound 64 = .ok (.putfield 301, 3) := by decide +kernel
theorem dX9_faultOfRound_67 : decode cX9_faultOfRound 67 = .ok (.iinc 1 1, 3) := by decide +kernel
theorem dX9_faultOfRound_70 : decode cX9_faultOfRound 70 = .ok (.goto (-53), 3) := by decide +kernel
theorem dX9_faultOfRound_73 : decode cX9_faultOfRound 73 = .ok (.aload_n 0, 1) := by decide +kernel
theorem dX9_faultOfRound_74 : decode cX9_faultOfRound 74 = .ok (.getfield 14, 3) := by decide +kernel
theorem dX9_faultOfRound_77 : decode cX9_faultOfRound 77 = .ok (.invokevirtual 308, 3) := by decide +kernel
theorem dX9_faultOfRound_80 : decode cX9_faultOfRound 80 = .ok (.iconst (-1), 1) := by decide +kernel
theorem dX9_faultOfRound_81 : decode cX9_faultOfRound 81 = .ok (.if_icmp .eq 11, 3) := by decide +kernel
theorem dX9_faultOfRound_84 : decode cX9_faultOfRound 84 = .ok (.aload_n 0, 1) := by decide +kernel
theorem dX9_faultOfRound_85 : decode cX9_faultOfRound 85 = .ok (.getfield 14, 3) := by decide +kernel
theorem dX9_faultOfRound_88 : decode cX9_faultOfRound 88 = .ok (.getfield 301, 3) := by decide +kernel
theorem dX9_faultOfRound_91 : decode cX9_faultOfRound 91 = .ok (.ireturn, 1) := by decide +kernel
theorem dX9_faultOfRound_92 : decode cX9_faultOfRound 92 = .ok (.aload_n 0, 1) := by decide +kernel
theorem dX9_faultOfRound_93 : decode cX9_faultOfRound 93 = .ok (.getfield 25, 3) := by decide +kernel
theorem dX9_faultOfRound_96 : decode cX9_faultOfRound 96 = .ok (.invokevirtual 311, 3) := by decide +kernel
theorem dX9_faultOfRound_99 : decode cX9_faultOfRound 99 = .ok (.aload_n 0, 1) := by decide +kernel
theorem dX9_faultOfRound_100 : decode cX9_faultOfRound 100 = .ok (.getfield 25, 3) := by decide +kernel
theorem dX9_faultOfRound_103 : decode cX9_faultOfRound 103 = .ok (.invokevirtual 286, 3) := by decide +kernel
theorem dX9_faultOfRound_106 : decode cX9_faultOfRound 106 = .ok (.if_icmp .ne 7, 3) := by decide +kernel
theorem dX9_faultOfRound_109 : decode cX9_faultOfRound 109 = .ok (.iconst (-1), 1) := by decide +kernel
theorem dX9_faultOfRound_110 : decode cX9_faultOfRound 110 = .ok (.goto 10, 3) := by decide +kernel
theorem dX9_faultOfRound_113 : decode cX9_faultOfRound 113 = .ok (.aload_n 0, 1) := by decide +kernel
theorem dX9_faultOfRound_114 : decode cX9_faultOfRound 114 = .ok (.getfield 14, 3) := by decide +kernel
theorem dX9_faultOfRound_117 : decode cX9_faultOfRound 117 = .ok (.getfield 292, 3) := by decide +kernel
theorem dX9_faultOfRound_120 : decode cX9_faultOfRound 120 = .ok (.ireturn, 1) := by decide +kernel
theorem dX9_readPair_0 : decode cX9_readPair 0 = .ok (.aload_n 0, 1) := by decide +kernel
theorem dX9_readPair_1 : decode cX9_readPair 1 = .ok (.getfield 14, 3) := by decide +kernel
theorem dX9_readPair_4 : decode cX9_readPair 4 = .ok (.invokevirtual 314, 3) := by decide +kernel
theorem dX9_readPair_7 : decode cX9_readPair 7 = .ok (.istore_n 1, 1) := by decide +kernel
theorem dX9_readPair_8 : decode cX9_readPair 8 = .ok (.iload_n 1, 1) := by decide +kernel
theorem dX9_readPair_9 : decode cX9_readPair 9 = .ok (.iconst (-1), 1) := by decide +kernel
theorem dX9_readPair_10 : decode cX9_readPair 10 = .ok (.if_icmp .ne 5, 3) := by decide +kernel
theorem dX9_readPair_13 : decode cX9_readPair 13 = .ok (.iconst 0, 1) := by decide +kernel
theorem dX9_readPair_14 : decode cX9_readPair 14 = .ok (.ireturn, 1) := by decide +kernel
theorem dX9_readPair_15 : decode cX9_readPair 15 = .ok (.aload_n 0, 1) := by decide +kernel
theorem dX9_readPair_16 : decode cX9_readPair 16 = .ok (.getfield 14, 3) := by decide +kernel
theorem dX9_readPair_19 : decode cX9_readPair 19 = .ok (.dup, 1) := by decide +kernel
theorem dX9_readPair_20 : decode cX9_readPair 20 = .ok (.getfield 301, 3) := by decide +kernel
theorem dX9_readPair_23 : decode cX9_readPair 23 = .ok (.iconst 1, 1) := by decide +kernel
theorem dX9_readPair_24 : decode cX9_readPair 24 = .ok (.iadd, 1) := by decide +kernel
theorem dX9_readPair_25 : decode cX9_readPair 25 = .ok (.putfield 301, 3) := by decide +kernel
theorem dX9_readPair_28 : decode cX9_readPair 28 = .ok (.aload_n 0, 1) := by decide +kernel
theorem dX9_readPair_29 : decode cX9_readPair 29 = .ok (.getfield 14, 3) := by decide +kernel
theorem dX9_readPair_32 : decode cX9_readPair 32 = .ok (.invokevirtual 308, 3) := by decide +kernel
theorem dX9_readPair_35 : decode cX9_readPair 35 = .ok (.bipush 62, 2) := by decide +kernel
theorem dX9_readPair_37 : decode cX9_readPair 37 = .ok (.if_icmp .eq 5, 3) := by decide +kernel
theorem dX9_readPair_40 : decode cX9_readPair 40 = .ok (.iconst 0, 1) := by decide +kernel
theorem dX9_readPair_41 : decode cX9_readPair 41 = .ok (.ireturn, 1) := by decide +kernel
theorem dX9_readPair_42 : decode cX9_readPair 42 = .ok (.aload_n 0, 1) := by decide +kernel
theorem dX9_readPair_43 : decode cX9_readPair 43 = .ok (.getfield 14, 3) := by decide +kernel
theorem dX9_readPair_46 : decode cX9_readPair 46 = .ok (.dup, 1) := by decide +kernel
theorem dX9_readPair_47 : decode cX9_readPair 47 = .ok (.getfield 301, 3) := by decide +kernel
theorem dX9_readPair_50 : decode cX9_readPair 50 = .ok (.iconst 1, 1) := by decide +kernel
theorem dX9_readPair_51 : decode cX9_readPair 51 = .ok (.iadd, 1) := by decide +kernel
theorem dX9_readPair_52 : decode cX9_readPair 52 = .ok (.putfield 301, 3) := by decide +kernel
theorem dX9_readPair_55 : decode cX9_readPair 55 = .ok (.aload_n 0, 1) := by decide +kernel
theorem dX9_readPair_56 : decode cX9_readPair 56 = .ok (.getfield 14, 3) := by decide +kernel
theorem dX9_readPair_59 : decode cX9_readPair 59 = .ok (.invokevirtual 314, 3) := by decide +kernel
theorem dX9_readPair_62 : decode cX9_readPair 62 = .ok (.istore_n 2, 1) := by decide +kernel
theorem dX9_readPair_63 : decode cX9_readPair 63 = .ok (.iload_n 2, 1) := by decide +kernel
theorem dX9_readPair_64 : decode cX9_readPair 64 = .ok (.iconst (-1), 1) := by decide +kernel
theorem dX9_readPair_65 : decode cX9_readPair 65 = .ok (.if_icmp .eq 20, 3) := by decide +kernel
theorem dX9_readPair_68 : decode cX9_readPair 68 = .ok (.iload_n 2, 1) := by decide +kernel
theorem dX9_readPair_69 : decode cX9_readPair 69 = .ok (.iload_n 1, 1) := by decide +kernel
theorem dX9_readPair_70 : decode cX9_readPair 70 = .ok (.if_icmp .eq 15, 3) := by decide +kernel
theorem dX9_readPair_73 : decode cX9_readPair 73 = .ok (.aload_n 0, 1) := by decide +kernel
theorem dX9_readPair_74 : decode cX9_readPair 74 = .ok (.getfield 25, 3) := by decide +kernel
theorem dX9_readPair_77 : decode cX9_readPair 77 = .ok (.iload_n 1, 1) := by decide +kernel
theorem dX9_readPair_78 : decode cX9_readPair 78 = .ok (.iload_n 2, 1) := by decide +kernel
theorem dX9_readPair_79 : decode cX9_readPair 79 = .ok (.invokevirtual 317, 3) := by decide +kernel
theorem dX9_readPair_82 : decode cX9_readPair 82 = .ok (.ifCond .eq 5, 3) := by decide +kernel
theorem dX9_readPair_85 : decode cX9_readPair 85 = .ok (.iconst 0, 1) := by decide +kernel
theorem dX9_readPair_86 : decode cX9_readPair 86 = .ok (.ireturn, 1) := by decide +kernel
theorem dX9_readPair_87 : decode cX9_readPair 87 = .ok (.aload_n 0, 1) := by decide +kernel
theorem dX9_readPair_88 : decode cX9_readPair 88 = .ok (.getfield 14, 3) := by decide +kernel
theorem dX9_readPair_91 : decode cX9_readPair 91 = .ok (.dup, 1) := by decide +kernel
theorem dX9_readPair_92 : decode cX9_readPair 92 = .ok (.getfield 301, 3) := by decide +kernel
theorem dX9_readPair_95 : decode cX9_readPair 95 = .ok (.iconst 1, 1) := by decide +kernel
theorem dX9_readPair_96 : decode cX9_readPair 96 = .ok (.iadd, 1) := by decide +kernel
theorem dX9_readPair_97 : decode cX9_readPair 97 = .ok (.putfield 301, 3) := by decide +kernel
theorem dX9_readPair_100 : decode cX9_readPair 100 = .ok (.aload_n 0, 1) := by decide +kernel
theorem dX9_readPair_101 : decode cX9_readPair 101 = .ok (.getfield 25, 3) := by decide +kernel
theorem dX9_readPair_104 : decode cX9_readPair 104 = .ok (.iload_n 1, 1) := by decide +kernel
theorem dX9_readPair_105 : decode cX9_readPair 105 = .ok (.iload_n 2, 1) := by decide +kernel
theorem dX9_readPair_106 : decode cX9_readPair 106 = .ok (.invokevirtual 111, 3) := by decide +kernel
theorem dX9_readPair_109 : decode cX9_readPair 109 = .ok (.aload_n 0, 1) := by decide +kernel
theorem dX9_readPair_110 : decode cX9_readPair 110 = .ok (.getfield 25, 3) := by decide +kernel
theorem dX9_readPair_113 : decode cX9_readPair 113 = .ok (.aload_n 0, 1) := by decide +kernel
theorem dX9_readPair_114 : decode cX9_readPair 114 = .ok (.getfield 25, 3) := by decide +kernel
theorem dX9_readPair_117 : decode cX9_readPair 117 = .ok (.getfield 106, 3) := by decide +kernel
theorem dX9_readPair_120 : decode cX9_readPair 120 = .ok (.iload_n 1, 1) := by decide +kernel
theorem dX9_readPair_121 : decode cX9_readPair 121 = .ok (.iload_n 2, 1) := by decide +kernel
theorem dX9_readPair_122 : decode cX9_readPair 122 = .ok (.invokestatic 320, 3) := by decide +kernel
theorem dX9_readPair_125 : decode cX9_readPair 125 = .ok (.iconst 1, 1) := by decide +kernel
theorem dX9_readPair_126 : decode cX9_readPair 126 = .ok (.iadd, 1) := by decide +kernel
theorem dX9_readPair_127 : decode cX9_readPair 127 = .ok (.invokestatic 320, 3) := by decide +kernel
theorem dX9_readPair_130 : decode cX9_readPair 130 = .ok (.putfield 106, 3) := by decide +kernel
theorem dX9_readPair_133 : decode cX9_readPair 133 = .ok (.iconst 1, 1) := by decide +kernel
theorem dX9_readPair_134 : decode cX9_readPair 134 = .ok (.ireturn, 1) := by decide +kernel
theorem dX9_countWithin_0 : decode cX9_countWithin 0 = .ok (.iconst 0, 1) := by decide +kernel
theorem dX9_countWithin_1 : decode cX9_countWithin 1 = .ok (.istore_n 1, 1) := by decide +kernel
theorem dX9_countWithin_2 : decode cX9_countWithin 2 = .ok (.iconst 0, 1) := by decide +kernel
theorem dX9_countWithin_3 : decode cX9_countWithin 3 = .ok (.istore_n 2, 1) := by decide +kernel
theorem dX9_countWithin_4 : decode cX9_countWithin 4 = .ok (.iload_n 2, 1) := by decide +kernel
theorem dX9_countWithin_5 : decode cX9_countWithin 5 = .ok (.bipush 9, 2) := by decide +kernel
theorem dX9_countWithin_7 : decode cX9_countWithin 7 = .ok (.if_icmp .ge 49, 3) := by decide +kernel
theorem dX9_countWithin_10 : decode cX9_countWithin 10 = .ok (.iconst 0, 1) := by decide +kernel
theorem dX9_countWithin_11 : decode cX9_countWithin 11 = .ok (.istore_n 3, 1) := by decide +kernel
theorem dX9_countWithin_12 : decode cX9_countWithin 12 = .ok (.iload_n 3, 1) := by decide +kernel
theorem dX9_countWithin_13 : decode cX9_countWithin 13 = .ok (.bipush 9, 2) := by decide +kernel
theorem dX9_countWithin_15 : decode cX9_countWithin 15 = .ok (.if_icmp .ge 35, 3) := by decide +kernel
theorem dX9_countWithin_18 : decode cX9_countWithin 18 = .ok (.iload_n 2, 1) := by decide +kernel
theorem dX9_countWithin_19 : decode cX9_countWithin 19 = .ok (.iload_n 3, 1) := by decide +kernel
theorem dX9_countWithin_20 : decode cX9_countWithin 20 = .ok (.if_icmp .eq 24, 3) := by decide +kernel
theorem dX9_countWithin_23 : decode cX9_countWithin 23 = .ok (.aload_n 0, 1) := by decide +kernel
theorem dX9_countWithin_24 : decode cX9_countWithin 24 = .ok (.getfield 83, 3) := by decide +kernel
theorem dX9_countWithin_27 : decode cX9_countWithin 27 = .ok (.iload_n 2, 1) := by decide +kernel
theorem dX9_countWithin_28 : decode cX9_countWithin 28 = .ok (.iaload, 1) := by decide +kernel
theorem dX9_countWithin_29 : decode cX9_countWithin 29 = .ok (.aload_n 0, 1) := by decide +kernel
theorem dX9_countWithin_30 : decode cX9_countWithin 30 = .ok (.getfield 83, 3) := by decide +kernel
theorem dX9_countWithin_33 : decode cX9_countWithin 33 = .ok (.iload_n 3, 1) := by decide +kernel
theorem dX9_countWithin_34 : decode cX9_countWithin 34 = .ok (.iaload, 1) := by decide +kernel
theorem dX9_countWithin_35 : decode cX9_countWithin 35 = .ok (.iconst (-1), 1) := by decide +kernel
theorem dX9_countWithin_36 : decode cX9_countWithin 36 = .ok (.ixor, 1) := by decide +kernel
theorem dX9_countWithin_37 : decode cX9_countWithin 37 = .ok (.iand, 1) := by decide +kernel
theorem dX9_countWithin_38 : decode cX9_countWithin 38 = .ok (.ifCond .ne 6, 3) := by decide +kernel
theorem dX9_countWithin_41 : decode cX9_countWithin 41 = .ok (.iinc 1 1, 3) := by decide +kernel
theorem dX9_countWithin_44 : decode cX9_countWithin 44 = .ok (.iinc 3 1, 3) := by decide +kernel
theorem dX9_countWithin_47 : decode cX9_countWithin 47 = .ok (.goto (-35), 3) := by decide +kernel
theorem dX9_countWithin_50 : decode cX9_countWithin 50 = .ok (.iinc 2 1, 3) := by decide +kernel
theorem dX9_countWithin_53 : decode cX9_countWithin 53 = .ok (.goto (-49), 3) := by decide +kernel
theorem dX9_countWithin_56 : decode cX9_countWithin 56 = .ok (.iload_n 1, 1) := by decide +kernel
theorem dX9_countWithin_57 : decode cX9_countWithin 57 = .ok (.ireturn, 1) := by decide +kernel
theorem dX9_firstLessWithin_0 : decode cX9_firstLessWithin 0 = .ok (.iconst 0, 1) := by decide +kernel
theorem dX9_firstLessWithin_1 : decode cX9_firstLessWithin 1 = .ok (.istore_n 1, 1) := by decide +kernel
theorem dX9_firstLessWithin_2 : decode cX9_firstLessWithin 2 = .ok (.iload_n 1, 1) := by decide +kernel
theorem dX9_firstLessWithin_3 : decode cX9_firstLessWithin 3 = .ok (.bipush 9, 2) := by decide +kernel
theorem dX9_firstLessWithin_5 : decode cX9_firstLessWithin 5 = .ok (.if_icmp .ge 63, 3) := by decide +kernel
theorem dX9_firstLessWithin_8 : decode cX9_firstLessWithin 8 = .ok (.iconst 0, 1) := by decide +kernel
theorem dX9_firstLessWithin_9 : decode cX9_firstLessWithin 9 = .ok (.istore_n 2, 1) := by decide +kernel
theorem dX9_firstLessWithin_10 : decode cX9_firstLessWithin 10 = .ok (.iload_n 2, 1) := by decide +kernel
theorem dX9_firstLessWithin_11 : decode cX9_firstLessWithin 11 = .ok (.bipush 9, 2) := by decide +kernel
theorem dX9_firstLessWithin_13 : decode cX9_firstLessWithin 13 = .ok (.if_icmp .ge 49, 3) := by decide +kernel
theorem dX9_firstLessWithin_16 : decode cX9_firstLessWithin 16 = .ok (.aload_n 0, 1) := by decide +kernel
theorem dX9_firstLessWithin_17 : decode cX9_firstLessWithin 17 = .ok (.getfield 83, 3) := by decide +kernel
theorem dX9_firstLessWithin_20 : decode cX9_firstLessWithin 20 = .ok (.iload_n 1, 1) := by decide +kernel
theorem dX9_firstLessWithin_21 : decode cX9_firstLessWithin 21 = .ok (.iaload, 1) := by decide +kernel
theorem dX9_firstLessWithin_22 : decode cX9_firstLessWithin 22 = .ok (.aload_n 0, 1) := by decide +kernel
theorem dX9_firstLessWithin_23 : decode cX9_firstLessWithin 23 = .ok (.getfield 83, 3) := by decide +kernel
theorem dX9_firstLessWithin_26 : decode cX9_firstLessWithin 26 = .ok (.iload_n 2, 1) := by decide +kernel
theorem dX9_firstLessWithin_27 : decode cX9_firstLessWithin 27 = .ok (.iaload, 1) := by decide +kernel
theorem dX9_firstLessWithin_28 : decode cX9_firstLessWithin 28 = .ok (.if_icmp .eq 28, 3) := by decide +kernel
theorem dX9_firstLessWithin_31 : decode cX9_firstLessWithin 31 = .ok (.aload_n 0, 1) := by decide +kernel
theorem dX9_firstLessWithin_32 : decode cX9_firstLessWithin 32 = .ok (.getfield 83, 3) := by decide +kernel
theorem dX9_firstLessWithin_35 : decode cX9_firstLessWithin 35 = .ok (.iload_n 1, 1) := by decide +kernel
theorem dX9_firstLessWithin_36 : decode cX9_firstLessWithin 36 = .ok (.iaload, 1) := by decide +kernel
theorem dX9_firstLessWithin_37 : decode cX9_firstLessWithin 37 = .ok (.aload_n 0, 1) := by decide +kernel
theorem dX9_firstLessWithin_38 : decode cX9_firstLessWithin 38 = .ok (.getfield 83, 3) := by decide +kernel
theorem dX9_firstLessWithin_41 : decode cX9_firstLessWithin 41 = .ok (.iload_n 2, 1) := by decide +kernel
theorem dX9_firstLessWithin_42 : decode cX9_firstLessWithin 42 = .ok (.iaload, 1) := by decide +kernel
theorem dX9_firstLessWithin_43 : decode cX9_firstLessWithin 43 = .ok (.iconst (-1), 1) := by decide +kernel
theorem dX9_firstLessWithin_44 : decode cX9_firstLessWithin 44 = .ok (.ixor, 1) := by decide +kernel
theorem dX9_firstLessWithin_45 : decode cX9_firstLessWithin 45 = .ok (.iand, 1) := by decide +kernel
theorem dX9_firstLessWithin_46 : decode cX9_firstLessWithin 46 = .ok (.ifCond .ne 10, 3) := by decide +kernel
theorem dX9_firstLessWithin_49 : decode cX9_firstLessWithin 49 = .ok (.bipush 10, 2) := by decide +kernel
theorem dX9_firstLessWithin_51 : decode cX9_firstLessWithin 51 = .ok (.iload_n 1, 1) := by decide +kernel
theorem dX9_firstLessWithin_52 : decode cX9_firstLessWithin 52 = .ok (.imul, 1) := by decide +kernel
theorem dX9_firstLessWithin_53 : decode cX9_firstLessWithin 53 = .ok (.iload_n 2, 1) := by decide +kernel
theorem dX9_firstLessWithin_54 : decode cX9_firstLessWithin 54 = .ok (.iadd, 1) := by decide +kernel
theorem dX9_firstLessWithin_55 : decode cX9_firstLessWithin 55 = .ok (.ireturn, 1) := by decide +kernel
theorem dX9_firstLessWithin_56 : decode cX9_firstLessWithin 56 = .ok (.iinc 2 1, 3) := by decide +kernel
theorem dX9_firstLessWithin_59 : decode cX9_firstLessWithin 59 = .ok (.goto (-49), 3) := by decide +kernel
theorem dX9_firstLessWithin_62 : decode cX9_firstLessWithin 62 = .ok (.iinc 1 1, 3) := by decide +kernel
theorem dX9_firstLessWithin_65 : decode cX9_firstLessWithin 65 = .ok (.goto (-63), 3) := by decide +kernel
theorem dX9_firstLessWithin_68 : decode cX9_firstLessWithin 68 = .ok (.iconst (-1), 1) := by decide +kernel
theorem dX9_firstLessWithin_69 : decode cX9_firstLessWithin 69 = .ok (.ireturn, 1) := by decide +kernel
theorem dX9_getsInto_0 : decode cX9_getsInto 0 = .ok (.aload_n 0, 1) := by decide +kernel
theorem dX9_getsInto_1 : decode cX9_getsInto 1 = .ok (.iload_n 1, 1) := by decide +kernel
theorem dX9_getsInto_2 : decode cX9_getsInto 2 = .ok (.iload_n 2, 1) := by decide +kernel
theorem dX9_getsInto_3 : decode cX9_getsInto 3 = .ok (.iload_n 3, 1) := by decide +kernel
theorem dX9_getsInto_4 : decode cX9_getsInto 4 = .ok (.invokevirtual 325, 3) := by decide +kernel
theorem dX9_getsInto_7 : decode cX9_getsInto 7 = .ok (.ifCond .eq 5, 3) := by decide +kernel
theorem dX9_getsInto_10 : decode cX9_getsInto 10 = .ok (.iconst 0, 1) := by decide +kernel
theorem dX9_getsInto_11 : decode cX9_getsInto 11 = .ok (.ireturn, 1) := by decide +kernel
theorem dX9_getsInto_12 : decode cX9_getsInto 12 = .ok (.iload_n 3, 1) := by decide +kernel
theorem dX9_getsInto_13 : decode cX9_getsInto 13 = .ok (.ifCond .gt 32, 3) := by decide +kernel
theorem dX9_getsInto_16 : decode cX9_getsInto 16 = .ok (.aload_n 0, 1) := by decide +kernel
theorem dX9_getsInto_17 : decode cX9_getsInto 17 = .ok (.getfield 63, 3) := by decide +kernel
theorem dX9_getsInto_20 : decode cX9_getsInto 20 = .ok (.iload_n 2, 1) := by decide +kernel
theorem dX9_getsInto_21 : decode cX9_getsInto 21 = .ok (.aload_n 0, 1) := by decide +kernel
theorem dX9_getsInto_22 : decode cX9_getsInto 22 = .ok (.getfield 21, 3) := by decide +kernel
theorem dX9_getsInto_25 : decode cX9_getsInto 25 = .ok (.invokevirtual 129, 3) := by decide +kernel
theorem dX9_getsInto_28 : decode cX9_getsInto 28 = .ok (.invokevirtual 173, 3) := by decide +kernel
theorem dX9_getsInto_31 : decode cX9_getsInto 31 = .ok (.iload_n 1, 1) := by decide +kernel
theorem dX9_getsInto_32 : decode cX9_getsInto 32 = .ok (.invokestatic 176, 3) := by decide +kernel
theorem dX9_getsInto_35 : decode cX9_getsInto 35 = .ok (.iconst 1, 1) := by decide +kernel
theorem dX9_getsInto_36 : decode cX9_getsInto 36 = .ok (.if_icmp .ne 7, 3) := by decide +kernel
theorem dX9_getsInto_39 : decode cX9_getsInto 39 = .ok (.iconst 1, 1) := by decide +kernel
theorem dX9_getsInto_40 : decode cX9_getsInto 40 = .ok (.goto 4, 3) := by decide +kernel
theorem dX9_getsInto_43 : decode cX9_getsInto 43 = .ok (.iconst 0, 1) := by decide +kernel
theorem dX9_getsInto_44 : decode cX9_getsInto 44 = .ok (.ireturn, 1) := by decide +kernel
theorem dX9_getsInto_45 : decode cX9_getsInto 45 = .ok (.iload 4, 2) := by decide +kernel
theorem dX9_getsInto_47 : decode cX9_getsInto 47 = .ok (.istore 5, 2) := by decide +kernel
theorem dX9_getsInto_49 : decode cX9_getsInto 49 = .ok (.iload 5, 2) := by decide +kernel
theorem dX9_getsInto_51 : decode cX9_getsInto 51 = .ok (.bipush 64, 2) := by decide +kernel
theorem dX9_getsInto_53 : decode cX9_getsInto 53 = .ok (.if_icmp .ge 89, 3) := by decide +kernel
theorem dX9_getsInto_56 : decode cX9_getsInto 56 = .ok (.iload 5, 2) := by decide +kernel
theorem dX9_getsInto_58 : decode cX9_getsInto 58 = .ok (.bipush 8, 2) := by decide +kernel
theorem dX9_getsInto_60 : decode cX9_getsInto 60 = .ok (.idiv, 1) := by decide +kernel
theorem dX9_getsInto_61 : decode cX9_getsInto 61 = .ok (.istore 6, 2) := by decide +kernel
theorem dX9_getsInto_63 : decode cX9_getsInto 63 = .ok (.iload 5, 2) := by decide +kernel
theorem dX9_getsInto_65 : decode cX9_getsInto 65 = .ok (.bipush 8, 2) := by decide +kernel
theorem dX9_getsInto_67 : decode cX9_getsInto 67 = .ok (.irem, 1) := by decide +kernel
theorem dX9_getsInto_68 : decode cX9_getsInto 68 = .ok (.istore 7, 2) := by decide +kernel
theorem dX9_getsInto_70 : decode cX9_getsInto 70 = .ok (.iload 6, 2) := by decide +kernel
theorem dX9_getsInto_72 : decode cX9_getsInto 72 = .ok (.iload 7, 2) := by decide +kernel
theorem dX9_getsInto_74 : decode cX9_getsInto 74 = .ok (.if_icmp .ge 62, 3) := by decide +kernel
theorem dX9_getsInto_77 : decode cX9_getsInto 77 = .ok (.iload 7, 2) := by decide +kernel
theorem dX9_getsInto_79 : decode cX9_getsInto 79 = .ok (.aload_n 0, 1) := by decide +kernel
theorem dX9_getsInto_80 : decode cX9_getsInto 80 = .ok (.getfield 21, 3) := by decide +kernel
theorem dX9_getsInto_83 : decode cX9_getsInto 83 = .ok (.getfield 106, 3) := by decide +kernel
theorem dX9_getsInto_86 : decode cX9_getsInto 86 = .ok (.if_icmp .lt 6, 3) := by decide +kernel
theorem dX9_getsInto_89 : decode cX9_getsInto 89 = .ok (.goto 47, 3) := by decide +kernel
theorem dX9_getsInto_92 : decode cX9_getsInto 92 = .ok (.aload_n 0, 1) := by decide +kernel
theorem dX9_getsInto_93 : decode cX9_getsInto 93 = .ok (.getfield 21, 3) := by decide +kernel
theorem dX9_getsInto_96 : decode cX9_getsInto 96 = .ok (.iload 6, 2) := by decide +kernel
theorem dX9_getsInto_98 : decode cX9_getsInto 98 = .ok (.iload 7, 2) := by decide +kernel
theorem dX9_getsInto_100 : decode cX9_getsInto 100 = .ok (.invokevirtual 157, 3) := by decide +kernel
theorem dX9_getsInto_103 : decode cX9_getsInto 103 = .ok (.aload_n 0, 1) := by decide +kernel
theorem dX9_getsInto_104 : decode cX9_getsInto 104 = .ok (.iload_n 1, 1) := by decide +kernel
theorem dX9_getsInto_105 : decode cX9_getsInto 105 = .ok (.iload_n 2, 1) := by decide +kernel
theorem dX9_getsInto_106 : decode cX9_getsInto 106 = .ok (.iload_n 3, 1) := by decide +kernel
theorem dX9_getsInto_107 : decode cX9_getsInto 107 = .ok (.iconst 1, 1) := by decide +kernel
theorem dX9_getsInto_108 : decode cX9_getsInto 108 = .ok (.isub, 1) := by decide +kernel
theorem dX9_getsInto_109 : decode cX9_getsInto 109 = .ok (.iload 5, 2) := by decide +kernel
theorem dX9_getsInto_111 : decode cX9_getsInto 111 = .ok (.iconst 1, 1) := by decide +kernel
theorem dX9_getsInto_112 : decode cX9_getsInto 112 = .ok (.iadd, 1) := by decide +kernel
theorem dX9_getsInto_113 : decode cX9_getsInto 113 = .ok (.invokevirtual 258, 3) := by decide +kernel
theorem dX9_getsInto_116 : decode cX9_getsInto 116 = .ok (.istore 8, 2) := by decide +kernel
theorem dX9_getsInto_118 : decode cX9_getsInto 118 = .ok (.aload_n 0, 1) := by decide +kernel
theorem dX9_getsInto_119 : decode cX9_getsInto 119 = .ok (.getfield 21, 3) := by decide +kernel
theorem dX9_getsInto_122 : decode cX9_getsInto 122 = .ok (.iload 6, 2) := by decide +kernel
theorem dX9_getsInto_124 : decode cX9_getsInto 124 = .ok (.iload 7, 2) := by decide +kernel
theorem dX9_getsInto_126 : decode cX9_getsInto 126 = .ok (.invokevirtual 157, 3) := by decide +kernel
theorem dX9_getsInto_129 : decode cX9_getsInto 129 = .ok (.iload 8, 2) := by decide +kernel
theorem dX9_getsInto_131 : decode cX9_getsInto 131 = .ok (.ifCond .eq 5, 3) := by decide +kernel
theorem dX9_getsInto_134 : decode cX9_getsInto 134 = .ok (.iconst 1, 1) := by decide +kernel
theorem dX9_getsInto_135 : decode cX9_getsInto 135 = .ok (.ireturn, 1) := by decide +kernel
theorem dX9_getsInto_136 : decode cX9_getsInto 136 = .ok (.iinc 5 1, 3) := by decide +kernel
theorem dX9_getsInto_139 : decode cX9_getsInto 139 = .ok (.goto (-90), 3) := by decide +kernel
theorem dX9_getsInto_142 : decode cX9_getsInto 142 = .ok (.iconst 0, 1) := by decide +kernel
theorem dX9_getsInto_143 : decode cX9_getsInto 143 = .ok (.ireturn, 1) := by decide +kernel
theorem dX9_isTooFar_0 : decode cX9_isTooFar 0 = .ok (.iload_n 2, 1) := by decide +kernel
theorem dX9_isTooFar_1 : decode cX9_isTooFar 1 = .ok (.ifCond .ne 5, 3) := by decide +kernel
theorem dX9_isTooFar_4 : decode cX9_isTooFar 4 = .ok (.iconst 0, 1) := by decide +kernel
theorem dX9_isTooFar_5 : decode cX9_isTooFar 5 = .ok (.ireturn, 1) := by decide +kernel
theorem dX9_isTooFar_6 : decode cX9_isTooFar 6 = .ok (.iload_n 2, 1) := by decide +kernel
theorem dX9_isTooFar_7 : decode cX9_isTooFar 7 = .ok (.bipush 9, 2) := by decide +kernel
theorem dX9_isTooFar_9 : decode cX9_isTooFar 9 = .ok (.if_icmp .ne 35, 3) := by decide +kernel
theorem dX9_isTooFar_12 : decode cX9_isTooFar 12 = .ok (.iconst 1, 1) := by decide +kernel
theorem dX9_isTooFar_13 : decode cX9_isTooFar 13 = .ok (.aload_n 0, 1) := by decide +kernel
theorem dX9_isTooFar_14 : decode cX9_isTooFar 14 = .ok (.getfield 21, 3) := by decide +kernel
theorem dX9_isTooFar_17 : decode cX9_isTooFar 17 = .ok (.getfield 136, 3) := by decide +kernel
theorem dX9_isTooFar_20 : decode cX9_isTooFar 20 = .ok (.iload_n 1, 1) := by decide +kernel
theorem dX9_isTooFar_21 : decode cX9_isTooFar 21 = .ok (.iaload, 1) := by decide +kernel
theorem dX9_isTooFar_22 : decode cX9_isTooFar 22 = .ok (.invokestatic 328, 3) := by decide +kernel
theorem dX9_isTooFar_25 : decode cX9_isTooFar 25 = .ok (.iload_n 3, 1) := by decide +kernel
theorem dX9_isTooFar_26 : decode cX9_isTooFar 26 = .ok (.iadd, 1) := by decide +kernel
theorem dX9_isTooFar_27 : decode cX9_isTooFar 27 = .ok (.ishl, 1) := by decide +kernel
theorem dX9_isTooFar_28 : decode cX9_isTooFar 28 = .ok (.aload_n 0, 1) := by decide +kernel
theorem dX9_isTooFar_29 : decode cX9_isTooFar 29 = .ok (.getfield 21, 3) := by decide +kernel
theorem dX9_isTooFar_32 : decode cX9_isTooFar 32 = .ok (.getfield 106, 3) := by decide +kernel
theorem dX9_isTooFar_35 : decode cX9_isTooFar 35 = .ok (.if_icmp .ge 7, 3) := by decide +kernel
theorem dX9_isTooFar_38 : decode cX9_isTooFar 38 = .ok (.iconst 1, 1) := by decide +kernel
theorem dX9_isTooFar_39 : decode cX9_isTooFar 39 = .ok (.goto 4, 3) := by decide +kernel
theorem dX9_isTooFar_42 : decode cX9_isTooFar 42 = .ok (.iconst 0, 1) := by decide +kernel
theorem dX9_isTooFar_43 : decode cX9_isTooFar 43 = .ok (.ireturn, 1) := by decide +kernel
theorem dX9_isTooFar_44 : decode cX9_isTooFar 44 = .ok (.iload_n 3, 1) := by decide +kernel
theorem dX9_isTooFar_45 : decode cX9_isTooFar 45 = .ok (.ifCond .ne 23, 3) := by decide +kernel
theorem dX9_isTooFar_48 : decode cX9_isTooFar 48 = .ok (.aload_n 0, 1) := by decide +kernel
theorem dX9_isTooFar_49 : decode cX9_isTooFar 49 = .ok (.getfield 63, 3) := by decide +kernel
theorem dX9_isTooFar_52 : decode cX9_isTooFar 52 = .ok (.iload_n 1, 1) := by decide +kernel
theorem dX9_isTooFar_53 : decode cX9_isTooFar 53 = .ok (.aload_n 0, 1) := by decide +kernel
theorem dX9_isTooFar_54 : decode cX9_isTooFar 54 = .ok (.getfield 21, 3) := by decide +kernel
theorem dX9_isTooFar_57 : decode cX9_isTooFar 57 = .ok (.invokevirtual 129, 3) := by decide +kernel
theorem dX9_isTooFar_60 : decode cX9_isTooFar 60 = .ok (.invokevirtual 331, 3) := by decide +kernel
theorem dX9_isTooFar_63 : decode cX9_isTooFar 63 = .ok (.ifCond .eq 5, 3) := by decide +kernel
theorem dX9_isTooFar_66 : decode cX9_isTooFar 66 = .ok (.iconst 1, 1) := by decide +kernel
theorem dX9_isTooFar_67 : decode cX9_isTooFar 67 = .ok (.ireturn, 1) := by decide +kernel
theorem dX9_isTooFar_68 : decode cX9_isTooFar 68 = .ok (.iload_n 2, 1) := by decide +kernel
theorem dX9_isTooFar_69 : decode cX9_isTooFar 69 = .ok (.iconst 5, 1) := by decide +kernel
theorem dX9_isTooFar_70 : decode cX9_isTooFar 70 = .ok (.if_icmp .ne 28, 3) := by decide +kernel
theorem dX9_isTooFar_73 : decode cX9_isTooFar 73 = .ok (.aload_n 0, 1) := by decide +kernel
theorem dX9_isTooFar_74 : decode cX9_isTooFar 74 = .ok (.getfield 40, 3) := by decide +kernel
theorem dX9_isTooFar_77 : decode cX9_isTooFar 77 = .ok (.iload_n 1, 1) := by decide +kernel
theorem dX9_isTooFar_78 : decode cX9_isTooFar 78 = .ok (.aload_n 0, 1) := by decide +kernel
theorem dX9_isTooFar_79 : decode cX9_isTooFar 79 = .ok (.getfield 21, 3) := by decide +kernel
theorem dX9_isTooFar_82 : decode cX9_isTooFar 82 = .ok (.invokevirtual 129, 3) := by decide +kernel
theorem dX9_isTooFar_85 : decode cX9_isTooFar 85 = .ok (.invokevirtual 334, 3) := by decide +kernel
theorem dX9_isTooFar_88 : decode cX9_isTooFar 88 = .ok (.iconst 2, 1) := by decide +kernel
theorem dX9_isTooFar_89 : decode cX9_isTooFar 89 = .ok (.iload_n 3, 1) := by decide +kernel
theorem dX9_isTooFar_90 : decode cX9_isTooFar 90 = .ok (.imul, 1) := by decide +kernel
theorem dX9_isTooFar_91 : decode cX9_isTooFar 91 = .ok (.if_icmp .le 7, 3) := by decide +kernel
theorem dX9_isTooFar_94 : decode cX9_isTooFar 94 = .ok (.iconst 1, 1) := by decide +kernel
theorem dX9_isTooFar_95 : decode cX9_isTooFar 95 = .ok (.goto 4, 3) := by decide +kernel
theorem dX9_isTooFar_98 : decode cX9_isTooFar 98 = .ok (.iconst 0, 1) := by decide +kernel
theorem dX9_isTooFar_99 : decode cX9_isTooFar 99 = .ok (.ireturn, 1) := by decide +kernel
theorem dX10_init_0 : decode cX10_init 0 = .ok (.aload_n 0, 1) := by decide +kernel
theorem dX10_init_1 : decode cX10_init 1 = .ok (.invokespecial 3, 3) := by decide +kernel
theorem dX10_init_4 : decode cX10_init 4 = .ok (.aload_n 0, 1) := by decide +kernel
theorem dX10_init_5 : decode cX10_init 5 = .ok (.bipush 9, 2) := by decide +kernel
theorem dX10_init_7 : decode cX10_init 7 = .ok (.newarray .int, 2) := by decide +kernel
theorem dX10_init_9 : decode cX10_init 9 = .ok (.putfield 9, 3) := by decide +kernel
theorem dX10_init_12 : decode cX10_init 12 = .ok (.aload_n 0, 1) := by decide +kernel
theorem dX10_init_13 : decode cX10_init 13 = .ok (.bipush 90, 2) := by decide +kernel
theorem dX10_init_15 : decode cX10_init 15 = .ok (.newarray .int, 2) := by decide +kernel
theorem dX10_init_17 : decode cX10_init 17 = .ok (.putfield 15, 3) := by decide +kernel
theorem dX10_init_20 : decode cX10_init 20 = .ok (.aload_n 0, 1) := by decide +kernel
theorem dX10_init_21 : decode cX10_init 21 = .ok (.bipush 18, 2) := by decide +kernel
theorem dX10_init_23 : decode cX10_init 23 = .ok (.newarray .int, 2) := by decide +kernel
theorem dX10_init_25 : decode cX10_init 25 = .ok (.putfield 18, 3) := by decide +kernel
theorem dX10_init_28 : decode cX10_init 28 = .ok (.aload_n 0, 1) := by decide +kernel
theorem dX10_init_29 : decode cX10_init 29 = .ok (.iconst 2, 1) := by decide +kernel
theorem dX10_init_30 : decode cX10_init 30 = .ok (.newarray .boolean, 2) := by decide +kernel
theorem dX10_init_32 : decode cX10_init 32 = .ok (.putfield 21, 3) := by decide +kernel
theorem dX10_init_35 : decode cX10_init 35 = .ok (.aload_n 0, 1) := by decide +kernel
theorem dX10_init_36 : decode cX10_init 36 = .ok (.sipush 300, 3) := by decide +kernel
theorem dX10_init_39 : decode cX10_init 39 = .ok (.newarray .byte, 2) := by decide +kernel
theorem dX10_init_41 : decode cX10_init 41 = .ok (.putfield 25, 3) := by decide +kernel
theorem dX10_init_44 : decode cX10_init 44 = .ok (.aload_n 0, 1) := by decide +kernel
theorem dX10_init_45 : decode cX10_init 45 = .ok (.bipush 8, 2) := by decide +kernel
theorem dX10_init_47 : decode cX10_init 47 = .ok (.newarray .int, 2) := by decide +kernel
theorem dX10_init_49 : decode cX10_init 49 = .ok (.putfield 29, 3) := by decide +kernel
theorem dX10_init_52 : decode cX10_init 52 = .ok (.aload_n 0, 1) := by decide +kernel
theorem dX10_init_53 : decode cX10_init 53 = .ok (.bipush 8, 2) := by decide +kernel
theorem dX10_init_55 : decode cX10_init 55 = .ok (.newarray .int, 2) := by decide +kernel
theorem dX10_init_57 : decode cX10_init 57 = .ok (.putfield 32, 3) := by decide +kernel
theorem dX10_init_60 : decode cX10_init 60 = .ok (.aload_n 0, 1) := by decide +kernel
theorem dX10_init_61 : decode cX10_init 61 = .ok (.bipush 9, 2) := by decide +kernel
theorem dX10_init_63 : decode cX10_init 63 = .ok (.newarray .int, 2) := by decide +kernel
theorem dX10_init_65 : decode cX10_init 65 = .ok (.putfield 35, 3) := by decide +kernel
theorem dX10_init_68 : decode cX10_init 68 = .ok (.aload_n 0, 1) := by decide +kernel
theorem dX10_init_69 : decode cX10_init 69 = .ok (.bipush 9, 2) := by decide +kernel
theorem dX10_init_71 : decode cX10_init 71 = .ok (.newarray .int, 2) := by decide +kernel
theorem dX10_init_73 : decode cX10_init 73 = .ok (.putfield 38, 3) := by decide +kernel
theorem dX10_init_76 : decode cX10_init 76 = .ok (.aload_n 0, 1) := by decide +kernel
theorem dX10_init_77 : decode cX10_init 77 = .ok (.bipush 9, 2) := by decide +kernel
theorem dX10_init_79 : decode cX10_init 79 = .ok (.newarray .int, 2) := by decide +kernel
theorem dX10_init_81 : decode cX10_init 81 = .ok (.putfield 41, 3) := by decide +kernel
theorem dX10_init_84 : decode cX10_init 84 = .ok (.aload_n 0, 1) := by decide +kernel
theorem dX10_init_85 : decode cX10_init 85 = .ok (.bipush 9, 2) := by decide +kernel
theorem dX10_init_87 : decode cX10_init 87 = .ok (.newarray .int, 2) := by decide +kernel
theorem dX10_init_89 : decode cX10_init 89 = .ok (.putfield 44, 3) := by decide +kernel
theorem dX10_init_92 : decode cX10_init 92 = .ok (.aload_n 0, 1) := by decide +kernel
theorem dX10_init_93 : decode cX10_init 93 = .ok (.sipush 256, 3) := by decide +kernel
theorem dX10_init_96 : decode cX10_init 96 = .ok (.newarray .int, 2) := by decide +kernel
theorem dX10_init_98 : decode cX10_init 98 = .ok (.putfield 47, 3) := by decide +kernel
theorem dX10_init_101 : decode cX10_init 101 = .ok (.aload_n 0, 1) := by decide +kernel
theorem dX10_init_102 : decode cX10_init 102 = .ok (.sipush 256, 3) := by decide +kernel
theorem dX10_init_105 : decode cX10_init 105 = .ok (.newarray .int, 2) := by decide +kernel
theorem dX10_init_107 : decode cX10_init 107 = .ok (.putfield 50, 3) := by decide +kernel
theorem dX10_init_110 : decode cX10_init 110 = .ok (.aload_n 0, 1) := by decide +kernel
theorem dX10_init_111 : decode cX10_init 111 = .ok (.sipush 256, 3) := by decide +kernel
theorem dX10_init_114 : decode cX10_init 114 = .ok (.newarray .int, 2) := by decide +kernel
theorem dX10_init_116 : decode cX10_init 116 = .ok (.putfield 53, 3) := by decide +kernel
theorem dX10_init_119 : decode cX10_init 119 = .ok (.aload_n 0, 1) := by decide +kernel
theorem dX10_init_120 : decode cX10_init 120 = .ok (.bipush 8, 2) := by decide +kernel
theorem dX10_init_122 : decode cX10_init 122 = .ok (.newarray .int, 2) := by decide +kernel
theorem dX10_init_124 : decode cX10_init 124 = .ok (.putfield 56, 3) := by decide +kernel
theorem dX10_init_127 : decode cX10_init 127 = .ok (.aload_n 0, 1) := by decide +kernel
theorem dX10_init_128 : decode cX10_init 128 = .ok (.sipush 256, 3) := by decide +kernel
theorem dX10_init_131 : decode cX10_init 131 = .ok (.newarray .int, 2) := by decide +kernel
theorem dX10_init_133 : decode cX10_init 133 = .ok (.putfield 59, 3) := by decide +kernel
theorem dX10_init_136 : decode cX10_init 136 = .ok (.aload_n 0, 1) := by decide +kernel
theorem dX10_init_137 : decode cX10_init 137 = .ok (.bipush 8, 2) := by decide +kernel
theorem dX10_init_139 : decode cX10_init 139 = .ok (.newarray .int, 2) := by decide +kernel
theorem dX10_init_141 : decode cX10_init 141 = .ok (.putfield 62, 3) := by decide +kernel
theorem dX10_init_144 : decode cX10_init 144 = .ok (.aload_n 0, 1) := by decide +kernel
theorem dX10_init_145 : decode cX10_init 145 = .ok (.sipush 2048, 3) := by decide +kernel
theorem dX10_init_148 : decode cX10_init 148 = .ok (.newarray .int, 2) := by decide +kernel
theorem dX10_init_150 : decode cX10_init 150 = .ok (.putfield 65, 3) := by decide +kernel
theorem dX10_init_153 : decode cX10_init 153 = .ok (.aload_n 0, 1) := by decide +kernel
theorem dX10_init_154 : decode cX10_init 154 = .ok (.bipush 9, 2) := by decide +kernel
theorem dX10_init_156 : decode cX10_init 156 = .ok (.newarray .int, 2) := by decide +kernel
theorem dX10_init_158 : decode cX10_init 158 = .ok (.putfield 68, 3) := by decide +kernel
theorem dX10_init_161 : decode cX10_init 161 = .ok (.aload_n 0, 1) := by decide +kernel
theorem dX10_init_162 : decode cX10_init 162 = .ok (.bipush 8, 2) := by decide +kernel
theorem dX10_init_164 : decode cX10_init 164 = .ok (.newarray .int, 2) := by decide +kernel
theorem dX10_init_166 : decode cX10_init 166 = .ok (.putfield 71, 3) := by decide +kernel
theorem dX10_init_169 : decode cX10_init 169 = .ok (.aload_n 0, 1) := by decide +kernel
theorem dX10_init_170 : decode cX10_init 170 = .ok (.bipush 8, 2) := by decide +kernel
theorem dX10_init_172 : decode cX10_init 172 = .ok (.newarray .int, 2) := by decide +kernel
theorem dX10_init_174 : decode cX10_init 174 = .ok (.putfield 74, 3) := by decide +kernel
theorem dX10_init_177 : decode cX10_init 177 = .ok (.aload_n 0, 1) := by decide +kernel
theorem dX10_init_178 : decode cX10_init 178 = .ok (.sipush 300, 3) := by decide +kernel
theorem dX10_init_181 : decode cX10_init 181 = .ok (.newarray .int, 2) := by decide +kernel
theorem dX10_init_183 : decode cX10_init 183 = .ok (.putfield 77, 3) := by decide +kernel
theorem dX10_init_186 : decode cX10_init 186 = .ok (.aload_n 0, 1) := by decide +kernel
theorem dX10_init_187 : decode cX10_init 187 = .ok (.sipush 152, 3) := by decide +kernel
theorem dX10_init_190 : decode cX10_init 190 = .ok (.newarray .int, 2) := by decide +kernel
theorem dX10_init_192 : decode cX10_init 192 = .ok (.putfield 80, 3) := by decide +kernel
theorem dX10_init_195 : decode cX10_init 195 = .ok (.aload_n 0, 1) := by decide +kernel
theorem dX10_init_196 : decode cX10_init 196 = .ok (.sipush 152, 3) := by decide +kernel
theorem dX10_init_199 : decode cX10_init 199 = .ok (.newarray .int, 2) := by decide +kernel
theorem dX10_init_201 : decode cX10_init 201 = .ok (.putfield 83, 3) := by decide +kernel
theorem dX10_init_204 : decode cX10_init 204 = .ok (.aload_n 0, 1) := by decide +kernel
theorem dX10_init_205 : decode cX10_init 205 = .ok (.iconst (-1), 1) := by decide +kernel
theorem dX10_init_206 : decode cX10_init 206 = .ok (.putfield 86, 3) := by decide +kernel
theorem dX10_init_209 : decode cX10_init 209 = .ok (.return_, 1) := by decide +kernel
theorem dX10_in_0 : decode cX10_in 0 = .ok (.lload_n 0, 1) := by decide +kernel
theorem dX10_in_1 : decode cX10_in 1 = .ok (.lload_n 2, 1) := by decide +kernel
theorem dX10_in_2 : decode cX10_in 2 = .ok (.lcmp, 1) := by decide +kernel
theorem dX10_in_3 : decode cX10_in 3 = .ok (.ifCond .lt 14, 3) := by decide +kernel
theorem dX10_in_6 : decode cX10_in 6 = .ok (.lload_n 0, 1) := by decide +kernel
theorem dX10_in_7 : decode cX10_in 7 = .ok (.lload 4, 2) := by decide +kernel
theorem dX10_in_9 : decode cX10_in 9 = .ok (.lcmp, 1) := by decide +kernel
theorem dX10_in_10 : decode cX10_in 10 = .ok (.ifCond .gt 7, 3) := by decide +kernel
theorem dX10_in_13 : decode cX10_in 13 = .ok (.iconst 1, 1) := by decide +kernel
theorem dX10_in_14 : decode cX10_in 14 = .ok (.goto 4, 3) := by decide +kernel
theorem dX10_in_17 : decode cX10_in 17 = .ok (.iconst 0, 1) := by decide +kernel
theorem dX10_in_18 : decode cX10_in 18 = .ok (.ireturn, 1) := by decide +kernel
theorem dX10_has_0 : decode cX10_has 0 = .ok (.iload_n 0, 1) := by decide +kernel
theorem dX10_has_1 : decode cX10_has 1 = .ok (.iload_n 1, 1) := by decide +kernel
theorem dX10_has_2 : decode cX10_has 2 = .ok (.ishr, 1) := by decide +kernel
theorem dX10_has_3 : decode cX10_has 3 = .ok (.iconst 1, 1) := by decide +kernel
theorem dX10_has_4 : decode cX10_has 4 = .ok (.iand, 1) := by decide +kernel
theorem dX10_has_5 : decode cX10_has 5 = .ok (.iconst 1, 1) := by decide +kernel
theorem dX10_has_6 : decode cX10_has 6 = .ok (.if_icmp .ne 7, 3) := by decide +kernel
theorem dX10_has_9 : decode cX10_has 9 = .ok (.iconst 1, 1) := by decide +kernel
theorem dX10_has_10 : decode cX10_has 10 = .ok (.goto 4, 3) := by decide +kernel
theorem dX10_has_13 : decode cX10_has 13 = .ok (.iconst 0, 1) := by decide +kernel
theorem dX10_has_14 : decode cX10_has 14 = .ok (.ireturn, 1) := by decide +kernel
theorem dX10_isWithin_0 : decode cX10_isWithin 0 = .ok (.iload_n 0, 1) := by decide +kernel
theorem dX10_isWithin_1 : decode cX10_isWithin 1 = .ok (.iload_n 1, 1) := by decide +kernel
theorem dX10_isWithin_2 : decode cX10_isWithin 2 = .ok (.iconst (-1), 1) := by decide +kernel
theorem dX10_isWithin_3 : decode cX10_isWithin 3 = .ok (.ixor, 1) := by decide +kernel
theorem dX10_isWithin_4 : decode cX10_isWithin 4 = .ok (.iand, 1) := by decide +kernel
theorem dX10_isWithin_5 : decode cX10_isWithin 5 = .ok (.ifCond .ne 7, 3) := by decide +kernel
theorem dX10_isWithin_8 : decode cX10_isWithin 8 = .ok (.iconst 1, 1) := by decide +kernel
theorem dX10_isWithin_9 : decode cX10_isWithin 9 = .ok (.goto 4, 3) := by decide +kernel
theorem dX10_isWithin_12 : decode cX10_isWithin 12 = .ok (.iconst 0, 1) := by decide +kernel
theorem dX10_isWithin_13 : decode cX10_isWithin 13 = .ok (.ireturn, 1) := by decide +kernel
theorem dX10_sizeOf_0 : decode cX10_sizeOf 0 = .ok (.iconst 0, 1) := by decide +kernel
theorem dX10_sizeOf_1 : decode cX10_sizeOf 1 = .ok (.istore_n 1, 1) := by decide +kernel
theorem dX10_sizeOf_2 : decode cX10_sizeOf 2 = .ok (.iload_n 0, 1) := by decide +kernel
theorem dX10_sizeOf_3 : decode cX10_sizeOf 3 = .ok (.istore_n 2, 1) := by decide +kernel
theorem dX10_sizeOf_4 : decode cX10_sizeOf 4 = .ok (.iload_n 2, 1) := by decide +kernel
theorem dX10_sizeOf_5 : decode cX10_sizeOf 5 = .ok (.ifCond .eq 15, 3) := by decide +kernel
theorem dX10_sizeOf_8 : decode cX10_sizeOf 8 = .ok (.iinc 1 1, 3) := by decide +kernel
theorem dX10_sizeOf_11 : decode cX10_sizeOf 11 = .ok (.iload_n 2, 1) := by decide +kernel
theorem dX10_sizeOf_12 : decode cX10_sizeOf 12 = .ok (.iload_n 2, 1) := by decide +kernel
theorem dX10_sizeOf_13 : decode cX10_sizeOf 13 = .ok (.iconst 1, 1) := by decide +kernel
theorem dX10_sizeOf_14 : decode cX10_sizeOf 14 = .ok (.isub, 1) := by decide +kernel
theorem dX10_sizeOf_15 : decode cX10_sizeOf 15 = .ok (.iand, 1) := by decide +kernel
theorem dX10_sizeOf_16 : decode cX10_sizeOf 16 = .ok (.istore_n 2, 1) := by decide +kernel
theorem dX10_sizeOf_17 : decode cX10_sizeOf 17 = .ok (.goto (-13), 3) := by decide +kernel
theorem dX10_sizeOf_20 : decode cX10_sizeOf 20 = .ok (.iload_n 1, 1) := by decide +kernel
theorem dX10_sizeOf_21 : decode cX10_sizeOf 21 = .ok (.ireturn, 1) := by decide +kernel
theorem dX10_many_0 : decode cX10_many 0 = .ok (.aload_n 0, 1) := by decide +kernel
theorem dX10_many_1 : decode cX10_many 1 = .ok (.getfield 9, 3) := by decide +kernel
theorem dX10_many_4 : decode cX10_many 4 = .ok (.iconst 0, 1) := by decide +kernel
theorem dX10_many_5 : decode cX10_many 5 = .ok (.iaload, 1) := by decide +kernel
theorem dX10_many_6 : decode cX10_many 6 = .ok (.ireturn, 1) := by decide +kernel
theorem dX10_isRound_0 : decode cX10_isRound 0 = .ok (.aload_n 0, 1) := by decide +kernel
theorem dX10_isRound_1 : decode cX10_isRound 1 = .ok (.getfield 9, 3) := by decide +kernel
theorem dX10_isRound_4 : decode cX10_isRound 4 = .ok (.iconst 0, 1) := by decide +kernel
theorem dX10_isRound_5 : decode cX10_isRound 5 = .ok (.iaload, 1) := by decide +kernel
theorem dX10_isRound_6 : decode cX10_isRound 6 = .ok (.ifCond .le 7, 3) := by decide +kernel
theorem dX10_isRound_9 : decode cX10_isRound 9 = .ok (.iconst 1, 1) := by decide +kernel
theorem dX10_isRound_10 : decode cX10_isRound 10 = .ok (.goto 4, 3) := by decide +kernel
theorem dX10_isRound_13 : decode cX10_isRound 13 = .ok (.iconst 0, 1) := by decide +kernel
theorem dX10_isRound_14 : decode cX10_isRound 14 = .ok (.ireturn, 1) := by decide +kernel
theorem dX10_isPlayer_0 : decode cX10_isPlayer 0 = .ok (.iload_n 1, 1) := by decide +kernel
theorem dX10_isPlayer_1 : decode cX10_isPlayer 1 = .ok (.i2l, 1) := by decide +kernel
theorem dX10_isPlayer_2 : decode cX10_isPlayer 2 = .ok (.lconst 0, 1) := by decide +kernel
theorem dX10_isPlayer_3 : decode cX10_isPlayer 3 = .ok (.aload_n 0, 1) := by decide +kernel
theorem dX10_isPlayer_4 : decode cX10_isPlayer 4 = .ok (.getfield 9, 3) := by decide +kernel
theorem dX10_isPlayer_7 : decode cX10_isPlayer 7 = .ok (.iconst 0, 1) := by decide +kernel
theorem dX10_isPlayer_8 : decode cX10_isPlayer 8 = .ok (.iaload, 1) := by decide +kernel
theorem dX10_isPlayer_9 : decode cX10_isPlayer 9 = .ok (.i2l, 1) := by decide +kernel
theorem dX10_isPlayer_10 : decode cX10_isPlayer 10 = .ok (.lconst 1, 1) := by decide +kernel
theorem dX10_isPlayer_11 : decode cX10_isPlayer 11 = .ok (.lsub, 1) := by decide +kernel
theorem dX10_isPlayer_12 : decode cX10_isPlayer 12 = .ok (.invokestatic 93, 3) := by decide +kernel
theorem dX10_isPlayer_15 : decode cX10_isPlayer 15 = .ok (.ireturn, 1) := by decide +kernel
theorem dX10_all_0 : decode cX10_all 0 = .ok (.iconst 1, 1) := by decide +kernel
theorem dX10_all_1 : decode cX10_all 1 = .ok (.aload_n 0, 1) := by decide +kernel
theorem dX10_all_2 : decode cX10_all 2 = .ok (.getfield 9, 3) := by decide +kernel
theorem dX10_all_5 : decode cX10_all 5 = .ok (.iconst 0, 1) := by decide +kernel
theorem dX10_all_6 : decode cX10_all 6 = .ok (.iaload, 1) := by decide +kernel
theorem dX10_all_7 : decode cX10_all 7 = .ok (.ishl, 1) := by decide +kernel
theorem dX10_all_8 : decode cX10_all 8 = .ok (.iconst 1, 1) := by decide +kernel
theorem dX10_all_9 : decode cX10_all 9 = .ok (.isub, 1) := by decide +kernel
theorem dX10_all_10 : decode cX10_all 10 = .ok (.ireturn, 1) := by decide +kernel
theorem dX10_isSome_0 : decode cX10_isSome 0 = .ok (.aload_n 0, 1) := by decide +kernel
theorem dX10_isSome_1 : decode cX10_isSome 1 = .ok (.invokevirtual 97, 3) := by decide +kernel
theorem dX10_isSome_4 : decode cX10_isSome 4 = .ok (.ifCond .eq 22, 3) := by decide +kernel
theorem dX10_isSome_7 : decode cX10_isSome 7 = .ok (.iload_n 1, 1) := by decide +kernel
theorem dX10_isSome_8 : decode cX10_isSome 8 = .ok (.ifCond .lt 18, 3) := by decide +kernel
theorem dX10_isSome_11 : decode cX10_isSome 11 = .ok (.iload_n 1, 1) := by decide +kernel
theorem dX10_isSome_12 : decode cX10_isSome 12 = .ok (.aload_n 0, 1) := by decide +kernel
theorem dX10_isSome_13 : decode cX10_isSome 13 = .ok (.invokevirtual 101, 3) := by decide +kernel
theorem dX10_isSome_16 : decode cX10_isSome 16 = .ok (.invokestatic 105, 3) := by decide +kernel
theorem dX10_isSome_19 : decode cX10_isSome 19 = .ok (.ifCond .eq 7, 3) := by decide +kernel
theorem dX10_isSome_22 : decode cX10_isSome 22 = .ok (.iconst 1, 1) := by decide +kernel
theorem dX10_isSome_23 : decode cX10_isSome 23 = .ok (.goto 4, 3) := by decide +kernel
theorem dX10_isSome_26 : decode cX10_isSome 26 = .ok (.iconst 0, 1) := by decide +kernel
theorem dX10_isSome_27 : decode cX10_isSome 27 = .ok (.ireturn, 1) := by decide +kernel
theorem dX10_beats_0 : decode cX10_beats 0 = .ok (.aload_n 0, 1) := by decide +kernel
theorem dX10_beats_1 : decode cX10_beats 1 = .ok (.getfield 9, 3) := by decide +kernel
theorem dX10_beats_4 : decode cX10_beats 4 = .ok (.iconst 1, 1) := by decide +kernel
theorem dX10_beats_5 : decode cX10_beats 5 = .ok (.iload_n 1, 1) := by decide +kernel
theorem dX10_beats_6 : decode cX10_beats 6 = .ok (.iadd, 1) := by decide +kernel
theorem dX10_beats_7 : decode cX10_beats 7 = .ok (.iaload, 1) := by decide +kernel
theorem dX10_beats_8 : decode cX10_beats 8 = .ok (.ireturn, 1) := by decide +kernel
theorem dX10_over_0 : decode cX10_over 0 = .ok (.aload_n 0, 1) := by decide +kernel
theorem dX10_over_1 : decode cX10_over 1 = .ok (.invokevirtual 101, 3) := by decide +kernel
theorem dX10_over_4 : decode cX10_over 4 = .ok (.aload_n 0, 1) := by decide +kernel
theorem dX10_over_5 : decode cX10_over 5 = .ok (.getfield 9, 3) := by decide +kernel
theorem dX10_over_8 : decode cX10_over 8 = .ok (.iconst 1, 1) := by decide +kernel
theorem dX10_over_9 : decode cX10_over 9 = .ok (.iload_n 1, 1) := by decide +kernel
theorem dX10_over_10 : decode cX10_over 10 = .ok (.iadd, 1) := by decide +kernel
theorem dX10_over_11 : decode cX10_over 11 = .ok (.iaload, 1) := by decide +kernel
theorem dX10_over_12 : decode cX10_over 12 = .ok (.iconst (-1), 1) := by decide +kernel
theorem dX10_over_13 : decode cX10_over 13 = .ok (.ixor, 1) := by decide +kernel
theorem dX10_over_14 : decode cX10_over 14 = .ok (.iand, 1) := by decide +kernel
theorem dX10_over_15 : decode cX10_over 15 = .ok (.iconst 1, 1) := by decide +kernel
theorem dX10_over_16 : decode cX10_over 16 = .ok (.iload_n 1, 1) := by decide +kernel
theorem dX10_over_17 : decode cX10_over 17 = .ok (.ishl, 1) := by decide +kernel
theorem dX10_over_18 : decode cX10_over 18 = .ok (.iconst (-1), 1) := by decide +kernel
theorem dX10_over_19 : decode cX10_over 19 = .ok (.ixor, 1) := by decide +kernel
theorem dX10_over_20 : decode cX10_over 20 = .ok (.iand, 1) := by decide +kernel
theorem dX10_over_21 : decode cX10_over 21 = .ok (.ireturn, 1) := by decide +kernel
theorem dX10_remember_0 : decode cX10_remember 0 = .ok (.aload_n 0, 1) := by decide +kernel
theorem dX10_remember_1 : decode cX10_remember 1 = .ok (.getfield 109, 3) := by decide +kernel
theorem dX10_remember_4 : decode cX10_remember 4 = .ok (.bipush 10, 2) := by decide +kernel
theorem dX10_remember_6 : decode cX10_remember 6 = .ok (.if_icmp .ne 47, 3) := by decide +kernel
theorem dX10_remember_9 : decode cX10_remember 9 = .ok (.aload_n 0, 1) := by decide +kernel
theorem dX10_remember_10 : decode cX10_remember 10 = .ok (.dup, 1) := by decide +kernel
theorem dX10_remember_11 : decode cX10_remember 11 = .ok (.getfield 109, 3) := by decide +kernel
theorem dX10_remember_14 : decode cX10_remember 14 = .ok (.iconst 1, 1) := by decide +kernel
theorem dX10_remember_15 : decode cX10_remember 15 = .ok (.isub, 1) := by decide +kernel
theorem dX10_remember_16 : decode cX10_remember 16 = .ok (.putfield 109, 3) := by decide +kernel
theorem dX10_remember_19 : decode cX10_remember 19 = .ok (.iconst 0, 1) := by decide +kernel
theorem dX10_remember_20 : decode cX10_remember 20 = .ok (.istore_n 1, 1) := by decide +kernel
theorem dX10_remember_21 : decode cX10_remember 21 = .ok (.iload_n 1, 1) := by decide +kernel
theorem dX10_remember_22 : decode cX10_remember 22 = .ok (.bipush 9, 2) := by decide +kernel
theorem dX10_remember_24 : decode cX10_remember 24 = .ok (.aload_n 0, 1) := by decide +kernel
theorem dX10_remember_25 : decode cX10_remember 25 = .ok (.getfield 109, 3) := by decide +kernel
theorem dX10_remember_28 : decode cX10_remember 28 = .ok (.imul, 1) := by decide +kernel
theorem dX10_remember_29 : decode cX10_remember 29 = .ok (.if_icmp .ge 24, 3) := by decide +kernel
theorem dX10_remember_32 : decode cX10_remember 32 = .ok (.aload_n 0, 1) := by decide +kernel
theorem dX10_remember_33 : decode cX10_remember 33 = .ok (.getfield 15, 3) := by decide +kernel
theorem dX10_remember_36 : decode cX10_remember 36 = .ok (.iload_n 1, 1) := by decide +kernel
theorem dX10_remember_37 : decode cX10_remember 37 = .ok (.aload_n 0, 1) := by decide +kernel
theorem dX10_remember_38 : decode cX10_remember 38 = .ok (.getfield 15, 3) := by decide +kernel
theorem dX10_remember_41 : decode cX10_remember 41 = .ok (.iload_n 1, 1) := by decide +kernel
theorem dX10_remember_42 : decode cX10_remember 42 = .ok (.bipush 9, 2) := by decide +kernel
theorem dX10_remember_44 : decode cX10_remember 44 = .ok (.iadd, 1) := by decide +kernel
theorem dX10_remember_45 : decode cX10_remember 45 = .ok (.iaload, 1) := by decide +kernel
theorem dX10_remember_46 : decode cX10_remember 46 = .ok (.iastore, 1) := by decide +kernel
theorem dX10_remember_47 : decode cX10_remember 47 = .ok (.iinc 1 1, 3) := by decide +kernel
theorem dX10_remember_50 : decode cX10_remember 50 = .ok (.goto (-29), 3) := by decide +kernel
theorem dX10_remember_53 : decode cX10_remember 53 = .ok (.iconst 0, 1) := by decide +kernel
theorem dX10_remember_54 : decode cX10_remember 54 = .ok (.istore_n 1, 1) := by decide +kernel
theorem dX10_remember_55 : decode cX10_remember 55 = .ok (.iload_n 1, 1) := by decide +kernel
theorem dX10_remember_56 : decode cX10_remember 56 = .ok (.bipush 9, 2) := by decide +kernel
theorem dX10_remember_58 : decode cX10_remember 58 = .ok (.if_icmp .ge 29, 3) := by decide +kernel
theorem dX10_remember_61 : decode cX10_remember 61 = .ok (.aload_n 0, 1) := by decide +kernel
theorem dX10_remember_62 : decode cX10_remember 62 = .ok (.getfield 15, 3) := by decide +kernel
theorem dX10_remember_65 : decode cX10_remember 65 = .ok (.bipush 9, 2) := by decide +kernel
theorem dX10_remember_67 : decode cX10_remember 67 = .ok (.aload_n 0, 1) := by decide +kernel
theorem dX10_remember_68 : decode cX10_remember 68 = .ok (.getfield 109, 3) := by decide +kernel
theorem dX10_remember_71 : decode cX10_remember 71 = .ok (.imul, 1) := by decide +kernel
theorem dX10_remember_72 : decode cX10_remember 72 = .ok (.iload_n 1, 1) := by decide +kernel
theorem dX10_remember_73 : decode cX10_remember 73 = .ok (.iadd, 1) := by decide +kernel
theorem dX10_remember_74 : decode cX10_remember 74 = .ok (.aload_n 0, 1) := by decide +kernel
theorem dX10_remember_75 : decode cX10_remember 75 = .ok (.getfield 9, 3) := by decide +kernel
theorem dX10_remember_78 : decode cX10_remember 78 = .ok (.iload_n 1, 1) := by decide +kernel
theorem dX10_remember_79 : decode cX10_remember 79 = .ok (.iaload, 1) := by decide +kernel
theorem dX10_remember_80 : decode cX10_remember 80 = .ok (.iastore, 1) := by decide +kernel
theorem dX10_remember_81 : decode cX10_remember 81 = .ok (.iinc 1 1, 3) := by decide +kernel
theorem dX10_remember_84 : decode cX10_remember 84 = .ok (.goto (-29), 3) := by decide +kernel
theorem dX10_remember_87 : decode cX10_remember 87 = .ok (.aload_n 0, 1) := by decide +kernel
theorem dX10_remember_88 : decode cX10_remember 88 = .ok (.dup, 1) := by decide +kernel
theorem dX10_remember_89 : decode cX10_remember 89 = .ok (.getfield 109, 3) := by decide +kernel
theorem dX10_remember_92 : decode cX10_remember 92 = .ok (.iconst 1, 1) := by decide +kernel
theorem dX10_remember_93 : decode cX10_remember 93 = .ok (.iadd, 1) := by decide +kernel
theorem dX10_remember_94 : decode cX10_remember 94 = .ok (.putfield 109, 3) := by decide +kernel
theorem dX10_remember_97 : decode cX10_remember 97 = .ok (.return_, 1) := by decide +kernel
theorem dX10_turnNow_0 : decode cX10_turnNow 0 = .ok (.aload_n 0, 1) := by decide +kernel
theorem dX10_turnNow_1 : decode cX10_turnNow 1 = .ok (.getfield 9, 3) := by decide +kernel
theorem dX10_turnNow_4 : decode cX10_turnNow 4 = .ok (.iconst 1, 1) := by decide +kernel
theorem dX10_turnNow_5 : decode cX10_turnNow 5 = .ok (.iload_n 1, 1) := by decide +kernel
theorem dX10_turnNow_6 : decode cX10_turnNow 6 = .ok (.iadd, 1) := by decide +kernel
theorem dX10_turnNow_7 : decode cX10_turnNow 7 = .ok (.dup2, 1) := by decide +kernel
theorem dX10_turnNow_8 : decode cX10_turnNow 8 = .ok (.iaload, 1) := by decide +kernel
theorem dX10_turnNow_9 : decode cX10_turnNow 9 = .ok (.iconst 1, 1) := by decide +kernel
theorem dX10_turnNow_10 : decode cX10_turnNow 10 = .ok (.iload_n 2, 1) := by decide +kernel
theorem dX10_turnNow_11 : decode cX10_turnNow 11 = .ok (.ishl, 1) := by decide +kernel
theorem dX10_turnNow_12 : decode cX10_turnNow 12 = .ok (.ixor, 1) := by decide +kernel
theorem dX10_turnNow_13 : decode cX10_turnNow 13 = .ok (.iastore, 1) := by decide +kernel
theorem dX10_turnNow_14 : decode cX10_turnNow 14 = .ok (.aload_n 0, 1) := by decide +kernel
theorem dX10_turnNow_15 : decode cX10_turnNow 15 = .ok (.getfield 9, 3) := by decide +kernel
theorem dX10_turnNow_18 : decode cX10_turnNow 18 = .ok (.iconst 1, 1) := by decide +kernel
theorem dX10_turnNow_19 : decode cX10_turnNow 19 = .ok (.iload_n 2, 1) := by decide +kernel
theorem dX10_turnNow_20 : decode cX10_turnNow 20 = .ok (.iadd, 1) := by decide +kernel
theorem dX10_turnNow_21 : decode cX10_turnNow 21 = .ok (.dup2, 1) := by decide +kernel
theorem dX10_turnNow_22 : decode cX10_turnNow 22 = .ok (.iaload, 1) := by decide +kernel
theorem dX10_turnNow_23 : decode cX10_turnNow 23 = .ok (.iconst 1, 1) := by decide +kernel
theorem dX10_turnNow_24 : decode cX10_turnNow 24 = .ok (.iload_n 1, 1) := by decide +kernel
theorem dX10_turnNow_25 : decode cX10_turnNow 25 = .ok (.ishl, 1) := by decide +kernel
theorem dX10_turnNow_26 : decode cX10_turnNow 26 = .ok (.ixor, 1) := by decide +kernel
theorem dX10_turnNow_27 : decode cX10_turnNow 27 = .ok (.iastore, 1) := by decide +kernel
theorem dX10_turnNow_28 : decode cX10_turnNow 28 = .ok (.return_, 1) := by decide +kernel
theorem dX10_sign_0 : decode cX10_sign 0 = .ok (.aload_n 0, 1) := by decide +kernel
theorem dX10_sign_1 : decode cX10_sign 1 = .ok (.iconst 0, 1) := by decide +kernel
theorem dX10_sign_2 : decode cX10_sign 2 = .ok (.putfield 90, 3) := by decide +kernel
theorem dX10_sign_5 : decode cX10_sign 5 = .ok (.aload_n 0, 1) := by decide +kernel
theorem dX10_sign_6 : decode cX10_sign 6 = .ok (.getfield 112, 3) := by decide +kernel
theorem dX10_sign_9 : decode cX10_sign 9 = .ok (.iconst 4, 1) := by decide +kernel
theorem dX10_sign_10 : decode cX10_sign 10 = .ok (.iadd, 1) := by decide +kernel
theorem dX10_sign_11 : decode cX10_sign 11 = .ok (.sipush 300, 3) := by decide +kernel
theorem dX10_sign_14 : decode cX10_sign 14 = .ok (.if_icmp .le 5, 3) := by decide +kernel
theorem dX10_sign_17 : decode cX10_sign 17 = .ok (.iconst (-1), 1) := by decide +kernel
theorem dX10_sign_18 : decode cX10_sign 18 = .ok (.ireturn, 1) := by decide +kernel
theorem dX10_sign_19 : decode cX10_sign 19 = .ok (.bipush 24, 2) := by decide +kernel
theorem dX10_sign_21 : decode cX10_sign 21 = .ok (.istore_n 2, 1) := by decide +kernel
theorem dX10_sign_22 : decode cX10_sign 22 = .ok (.iload_n 2, 1) := by decide +kernel
theorem dX10_sign_23 : decode cX10_sign 23 = .ok (.ifCond .lt 32, 3) := by decide +kernel
theorem dX10_sign_26 : decode cX10_sign 26 = .ok (.aload_n 0, 1) := by decide +kernel
theorem dX10_sign_27 : decode cX10_sign 27 = .ok (.getfield 25, 3) := by decide +kernel
theorem dX10_sign_30 : decode cX10_sign 30 = .ok (.aload_n 0, 1) := by decide +kernel
theorem dX10_sign_31 : decode cX10_sign 31 = .ok (.getfield 112, 3) := by decide +kernel
theorem dX10_sign_34 : decode cX10_sign 34 = .ok (.iload_n 1, 1) := by decide +kernel
theorem dX10_sign_35 : decode cX10_sign 35 = .ok (.iload_n 2, 1) := by decide +kernel
theorem dX10_sign_36 : decode cX10_sign 36 = .ok (.iushr, 1) := by decide +kernel
theorem dX10_sign_37 : decode cX10_sign 37 = .ok (.i2b, 1) := by decide +kernel
theorem dX10_sign_38 : decode cX10_sign 38 = .ok (.bastore, 1) := by decide +kernel
theorem dX10_sign_39 : decode cX10_sign 39 = .ok (.aload_n 0, 1) := by decide +kernel
theorem dX10_sign_40 : decode cX10_sign 40 = .ok (.dup, 1) := by decide +kernel
theorem dX10_sign_41 : decode cX10_sign 41 = .ok (.getfield 112, 3) := by decide +kernel
theorem dX10_sign_44 : decode cX10_sign 44 = .ok (.iconst 1, 1) := by decide +kernel
theorem dX10_sign_45 : decode cX10_sign 45 = .ok (.iadd, 1) := by decide +kernel
theorem dX10_sign_46 : decode cX10_sign 46 = .ok (.putfield 112, 3) := by decide +kernel
theorem dX10_sign_49 : decode cX10_sign 49 = .ok (.iinc 2 (-8), 3) := by decide +kernel
theorem dX10_sign_52 : decode cX10_sign 52 = .ok (.goto (-30), 3) := by decide +kernel
theorem dX10_sign_55 : decode cX10_sign 55 = .ok (.aload_n 0, 1) := by decide +kernel
theorem dX10_sign_56 : decode cX10_sign 56 = .ok (.getfield 112, 3) := by decide +kernel
theorem dX10_sign_59 : decode cX10_sign 59 = .ok (.ireturn, 1) := by decide +kernel
theorem dX10_end_0 : decode cX10_end 0 = .ok (.aload_n 0, 1) := by decide +kernel
theorem dX10_end_1 : decode cX10_end 1 = .ok (.iconst 0, 1) := by decide +kernel
theorem dX10_end_2 : decode cX10_end 2 = .ok (.putfield 90, 3) := by decide +kernel
theorem dX10_end_5 : decode cX10_end 5 = .ok (.iload_n 1, 1) := by decide +kernel
theorem dX10_end_6 : decode cX10_end 6 = .ok (.i2l, 1) := by decide +kernel
theorem dX10_end_7 : decode cX10_end 7 = .ok (.lconst 0, 1) := by decide +kernel
theorem dX10_end_8 : decode cX10_end 8 = .ok (.aload_n 0, 1) := by decide +kernel
theorem dX10_end_9 : decode cX10_end 9 = .ok (.getfield 112, 3) := by decide +kernel
theorem dX10_end_12 : decode cX10_end 12 = .ok (.i2l, 1) := by decide +kernel
theorem dX10_end_13 : decode cX10_end 13 = .ok (.invokestatic 93, 3) := by decide +kernel
theorem dX10_end_16 : decode cX10_end 16 = .ok (.ifCond .ne 5, 3) := by decide +kernel
theorem dX10_end_19 : decode cX10_end 19 = .ok (.iconst 0, 1) := by decide +kernel
theorem dX10_end_20 : decode cX10_end 20 = .ok (.ireturn, 1) := by decide +kernel
theorem dX10_end_21 : decode cX10_end 21 = .ok (.aload_n 0, 1) := by decide +kernel
theorem dX10_end_22 : decode cX10_end 22 = .ok (.iload_n 1, 1) := by decide +kernel
theorem dX10_end_23 : decode cX10_end 23 = .ok (.putfield 112, 3) := by decide +kernel
theorem dX10_end_26 : decode cX10_end 26 = .ok (.iconst 1, 1) := by decide +kernel
theorem dX10_end_27 : decode cX10_end 27 = .ok (.ireturn, 1) := by decide +kernel
theorem dX10_wrong_0 : decode cX10_wrong 0 = .ok (.aload_n 0, 1) := by decide +kernel
theorem dX10_wrong_1 : decode cX10_wrong 1 = .ok (.aload_n 0, 1) := by decide +kernel
theorem dX10_wrong_2 : decode cX10_wrong 2 = .ok (.getfield 115, 3) := by decide +kernel
theorem dX10_wrong_5 : decode cX10_wrong 5 = .ok (.ifCond .eq 7, 3) := by decide +kernel
theorem dX10_wrong_8 : decode cX10_wrong 8 = .ok (.iload_n 1, 1) := by decide +kernel
theorem dX10_wrong_9 : decode cX10_wrong 9 = .ok (.goto 7, 3) := by decide +kernel
theorem dX10_wrong_12 : decode cX10_wrong 12 = .ok (.aload_n 0, 1) := by decide +kernel
theorem dX10_wrong_13 : decode cX10_wrong 13 = .ok (.getfield 119, 3) := by decide +kernel
theorem dX10_wrong_16 : decode cX10_wrong 16 = .ok (.putfield 119, 3) := by decide +kernel
theorem dX10_wrong_19 : decode cX10_wrong 19 = .ok (.aload_n 0, 1) := by decide +kernel
theorem dX10_wrong_20 : decode cX10_wrong 20 = .ok (.iconst 0, 1) := by decide +kernel
theorem dX10_wrong_21 : decode cX10_wrong 21 = .ok (.putfield 115, 3) := by decide +kernel
theorem dX10_wrong_24 : decode cX10_wrong 24 = .ok (.return_, 1) := by decide +kernel
theorem dX10_next_0 : decode cX10_next 0 = .ok (.aload_n 0, 1) := by decide +kernel
theorem dX10_next_1 : decode cX10_next 1 = .ok (.getfield 122, 3) := by decide +kernel
theorem dX10_next_4 : decode cX10_next 4 = .ok (.aload_n 0, 1) := by decide +kernel
theorem dX10_next_5 : decode cX10_next 5 = .ok (.getfield 112, 3) := by decide +kernel
theorem dX10_next_8 : decode cX10_next 8 = .ok (.if_icmp .ge 30, 3) := by decide +kernel
theorem dX10_next_11 : decode cX10_next 11 = .ok (.aload_n 0, 1) := by decide +kernel
theorem dX10_next_12 : decode cX10_next 12 = .ok (.getfield 25, 3) := by decide +kernel
theorem dX10_next_15 : decode cX10_next 15 = .ok (.aload_n 0, 1) := by decide +kernel
theorem dX10_next_16 : decode cX10_next 16 = .ok (.getfield 122, 3) := by decide +kernel
theorem dX10_next_19 : decode cX10_next 19 = .ok (.baload, 1) := by decide +kernel
theorem dX10_next_20 : decode cX10_next 20 = .ok (.bipush 32, 2) := by decide +kernel
theorem dX10_next_22 : decode cX10_next 22 = .ok (.if_icmp .ne 16, 3) := by decide +kernel
theorem dX10_next_25 : decode cX10_next 25 = .ok (.aload_n 0, 1) := by decide +kernel
theorem dX10_next_26 : decode cX10_next 26 = .ok (.dup, 1) := by decide +kernel
theorem dX10_next_27 : decode cX10_next 27 = .ok (.getfield 122, 3) := by decide +kernel
theorem dX10_next_30 : decode cX10_next 30 = .ok (.iconst 1, 1) := by decide +kernel
theorem dX10_next_31 : decode cX10_next 31 = .ok (.iadd, 1) := by decide +kernel
theorem dX10_next_32 : decode cX10_next 32 = .ok (.putfield 122, 3) := by decide +kernel
theorem dX10_next_35 : decode cX10_next 35 = .ok (.goto (-35), 3) := by decide +kernel
theorem dX10_next_38 : decode cX10_next 38 = .ok (.aload_n 0, 1) := by decide +kernel
theorem dX10_next_39 : decode cX10_next 39 = .ok (.getfield 122, 3) := by decide +kernel
theorem dX10_next_42 : decode cX10_next 42 = .ok (.aload_n 0, 1) := by decide +kernel
theorem dX10_next_43 : decode cX10_next 43 = .ok (.getfield 112, 3) := by decide +kernel
theorem dX10_next_46 : decode cX10_next 46 = .ok (.if_icmp .ge 15, 3) := by decide +kernel
theorem dX10_next_49 : decode cX10_next 49 = .ok (.aload_n 0, 1) := by decide +kernel
theorem dX10_next_50 : decode cX10_next 50 = .ok (.getfield 25, 3) := by decide +kernel
theorem dX10_next_53 : decode cX10_next 53 = .ok (.aload_n 0, 1) := by decide +kernel
theorem dX10_next_54 : decode cX10_next 54 = .ok (.getfield 122, 3) := by decide +kernel
theorem dX10_next_57 : decode cX10_next 57 = .ok (.baload, 1) := by decide +kernel
theorem dX10_next_58 : decode cX10_next 58 = .ok (.goto 4, 3) := by decide +kernel
theorem dX10_next_61 : decode cX10_next 61 = .ok (.iconst 0, 1) := by decide +kernel
theorem dX10_next_62 : decode cX10_next 62 = .ok (.ireturn, 1) := by decide +kernel
theorem dX10_isEnd_0 : decode cX10_isEnd 0 = .ok (.aload_n 0, 1) := by decide +kernel
theorem dX10_isEnd_1 : decode cX10_isEnd 1 = .ok (.invokevirtual 125, 3) := by decide +kernel
theorem dX10_isEnd_4 : decode cX10_isEnd 4 = .ok (.ifCond .ne 18, 3) := by decide +kernel
theorem dX10_isEnd_7 : decode cX10_isEnd 7 = .ok (.aload_n 0, 1) := by decide +kernel
theorem dX10_isEnd_8 : decode cX10_isEnd 8 = .ok (.getfield 122, 3) := by decide +kernel
theorem dX10_isEnd_11 : decode cX10_isEnd 11 = .ok (.aload_n 0, 1) := by decide +kernel
theorem dX10_isEnd_12 : decode cX10_isEnd 12 = .ok (.getfield 112, 3) := by decide +kernel
theorem dX10_isEnd_15 : decode cX10_isEnd 15 = .ok (.if_icmp .lt 7, 3) := by decide +kernel
theorem dX10_isEnd_18 : decode cX10_isEnd 18 = .ok (.iconst 1, 1) := by decide +kernel
theorem dX10_isEnd_19 : decode cX10_isEnd 19 = .ok (.goto 4, 3) := by decide +kernel
theorem dX10_isEnd_22 : decode cX10_isEnd 22 = .ok (.iconst 0, 1) := by decide +kernel
theorem dX10_isEnd_23 : decode cX10_isEnd 23 = .ok (.ireturn, 1) := by decide +kernel
theorem dX10_takes_0 : decode cX10_takes 0 = .ok (.aload_n 0, 1) := by decide +kernel
theorem dX10_takes_1 : decode cX10_takes 1 = .ok (.getfield 115, 3) := by decide +kernel
theorem dX10_takes_4 : decode cX10_takes 4 = .ok (.ifCond .eq 26, 3) := by decide +kernel
theorem dX10_takes_7 : decode cX10_takes 7 = .ok (.aload_n 0, 1) := by decide +kernel
theorem dX10_takes_8 : decode cX10_takes 8 = .ok (.invokevirtual 125, 3) := by decide +kernel
theorem dX10_takes_11 : decode cX10_takes 11 = .ok (.iload_n 1, 1) := by decide +kernel
theorem dX10_takes_12 : decode cX10_takes 12 = .ok (.if_icmp .ne 18, 3) := by decide +kernel
theorem dX10_takes_15 : decode cX10_takes 15 = .ok (.aload_n 0, 1) := by decide +kernel
theorem dX10_takes_16 : decode cX10_takes 16 = .ok (.getfield 122, 3) := by decide +kernel
theorem dX10_takes_19 : decode cX10_takes 19 = .ok (.aload_n 0, 1) := by decide +kernel
theorem dX10_takes_20 : decode cX10_takes 20 = .ok (.getfield 112, 3) := by decide +kernel
theorem dX10_takes_23 : decode cX10_takes 23 = .ok (.if_icmp .ge 7, 3) := by decide +kernel
theorem dX10_takes_26 : decode cX10_takes 26 = .ok (.iconst 1, 1) := by decide +kernel
theorem dX10_takes_27 : decode cX10_takes 27 = .ok (.goto 4, 3) := by decide +kernel
theorem dX10_takes_30 : decode cX10_takes 30 = .ok (.iconst 0, 1) := by decide +kernel
theorem dX10_takes_31 : decode cX10_takes 31 = .ok (.istore_n 2, 1) := by decide +kernel
theorem dX10_takes_32 : decode cX10_takes 32 = .ok (.aload_n 0, 1) := by decide +kernel
theorem dX10_takes_33 : decode cX10_takes 33 = .ok (.dup, 1) := by decide +kernel
theorem dX10_takes_34 : decode cX10_takes 34 = .ok (.getfield 122, 3) := by decide +kernel
theorem dX10_takes_37 : decode cX10_takes 37 = .ok (.iload_n 2, 1) := by decide +kernel
theorem dX10_takes_38 : decode cX10_takes 38 = .ok (.ifCond .eq 7, 3) := by decide +kernel
theorem dX10_takes_41 : decode cX10_takes 41 = .ok (.iconst 1, 1) := by decide +kernel
theorem dX10_takes_42 : decode cX10_takes 42 = .ok (.goto 4, 3) := by decide +kernel
theorem dX10_takes_45 : decode cX10_takes 45 = .ok (.iconst 0, 1) := by decide +kernel
theorem dX10_takes_46 : decode cX10_takes 46 = .ok (.iadd, 1) := by decide +kernel
theorem dX10_takes_47 : decode cX10_takes 47 = .ok (.putfield 122, 3) := by decide +kernel
theorem dX10_takes_50 : decode cX10_takes 50 = .ok (.iload_n 2, 1) := by decide +kernel
theorem dX10_takes_51 : decode cX10_takes 51 = .ok (.ireturn, 1) := by decide +kernel
theorem dX10_isLetterNext_0 : decode cX10_isLetterNext 0 = .ok (.aload_n 0, 1) := by decide +kernel
theorem dX10_isLetterNext_1 : decode cX10_isLetterNext 1 = .ok (.getfield 115, 3) := by decide +kernel
theorem dX10_isLetterNext_4 : decode cX10_isLetterNext 4 = .ok (.ifCond .eq 35, 3) := by decide +kernel
theorem dX10_isLetterNext_7 : decode cX10_isLetterNext 7 = .ok (.aload_n 0, 1) := by decide +kernel
theorem dX10_isLetterNext_8 : decode cX10_isLetterNext 8 = .ok (.invokevirtual 125, 3) := by decide +kernel
theorem dX10_isLetterNext_11 : decode cX10_isLetterNext 11 = .ok (.i2l, 1) := by decide +kernel
theorem dX10_isLetterNext_12 : decode cX10_isLetterNext 12 = .ok (.ldc2_w 128, 3) := by decide +kernel
theorem dX10_isLetterNext_15 : decode cX10_isLetterNext 15 = .ok (.ldc2_w 130, 3) := by decide +kernel
theorem dX10_isLetterNext_18 : decode cX10_isLetterNext 18 = .ok (.invokestatic 93, 3) := by decide +kernel
theorem dX10_isLetterNext_21 : decode cX10_isLetterNext 21 = .ok (.ifCond .eq 18, 3) := by decide +kernel
theorem dX10_isLetterNext_24 : decode cX10_isLetterNext 24 = .ok (.aload_n 0, 1) := by decide +kernel
theorem dX10_isLetterNext_25 : decode cX10_isLetterNext 25 = .ok (.getfield 122, 3) := by decide +kernel
theorem dX10_isLetterNext_28 : decode cX10_isLetterNext 28 = .ok (.aload_n 0, 1) := by decide +kernel
theorem dX10_isLetterNext_29 : decode cX10_isLetterNext 29 = .ok (.getfield 112, 3) := by decide +kernel
theorem dX10_isLetterNext_32 : decode cX10_isLetterNext 32 = .ok (.if_icmp .ge 7, 3) := by decide +kernel
theorem dX10_isLetterNext_35 : decode cX10_isLetterNext 35 = .ok (.iconst 1, 1) := by decide +kernel
theorem dX10_isLetterNext_36 : decode cX10_isLetterNext 36 = .ok (.goto 4, 3) := by decide +kernel
theorem dX10_isLetterNext_39 : decode cX10_isLetterNext 39 = .ok (.iconst 0, 1) := by decide +kernel
theorem dX10_isLetterNext_40 : decode cX10_isLetterNext 40 = .ok (.ireturn, 1) := by decide +kernel
theorem dX10_letter_0 : decode cX10_letter 0 = .ok (.aload_n 0, 1) := by decide +kernel
theorem dX10_letter_1 : decode cX10_letter 1 = .ok (.invokevirtual 132, 3) := by decide +kernel
theorem dX10_letter_4 : decode cX10_letter 4 = .ok (.ifCond .ne 13, 3) := by decide +kernel
theorem dX10_letter_7 : decode cX10_letter 7 = .ok (.aload_n 0, 1) := by decide +kernel
theorem dX10_letter_8 : decode cX10_letter 8 = .ok (.aload_n 0, 1) := by decide +kernel
theorem dX10_letter_9 : decode cX10_letter 9 = .ok (.getfield 122, 3) := by decide +kernel
theorem dX10_letter_12 : decode cX10_letter 12 = .ok (.invokevirtual 135, 3) := by decide +kernel
theorem dX10_letter_15 : decode cX10_letter 15 = .ok (.iconst 0, 1) := by decide +kernel
theorem dX10_letter_16 : decode cX10_letter 16 = .ok (.ireturn, 1) := by decide +kernel
theorem dX10_letter_17 : decode cX10_letter 17 = .ok (.aload_n 0, 1) := by decide +kernel
theorem dX10_letter_18 : decode cX10_letter 18 = .ok (.dup, 1) := by decide +kernel
theorem dX10_letter_19 : decode cX10_letter 19 = .ok (.getfield 122, 3) := by decide +kernel
theorem dX10_letter_22 : decode cX10_letter 22 = .ok (.iconst 1, 1) := by decide +kernel
theorem dX10_letter_23 : decode cX10_letter 23 = .ok (.iadd, 1) := by decide +kernel
theorem dX10_letter_24 : decode cX10_letter 24 = .ok (.putfield 122, 3) := by decide +kernel
theorem dX10_letter_27 : decode cX10_letter 27 = .ok (.aload_n 0, 1) := by decide +kernel
theorem dX10_letter_28 : decode cX10_letter 28 = .ok (.getfield 25, 3) := by decide +kernel
theorem dX10_letter_31 : decode cX10_letter 31 = .ok (.aload_n 0, 1) := by decide +kernel
theorem dX10_letter_32 : decode cX10_letter 32 = .ok (.getfield 122, 3) := by decide +kernel
theorem dX10_letter_35 : decode cX10_letter 35 = .ok (.iconst 1, 1) := by decide +kernel
theorem dX10_letter_36 : decode cX10_letter 36 = .ok (.isub, 1) := by decide +kernel
theorem dX10_letter_37 : decode cX10_letter 37 = .ok (.baload, 1) := by decide +kernel
theorem dX10_letter_38 : decode cX10_letter 38 = .ok (.bipush 97, 2) := by decide +kernel
theorem dX10_letter_40 : decode cX10_letter 40 = .ok (.isub, 1) := by decide +kernel
theorem dX10_letter_41 : decode cX10_letter 41 = .ok (.ireturn, 1) := by decide +kernel
theorem dX10_readPair_0 : decode cX10_readPair 0 = .ok (.aload_n 0, 1) := by decide +kernel
theorem dX10_readPair_1 : decode cX10_readPair 1 = .ok (.invokevirtual 139, 3) := by decide +kernel
theorem dX10_readPair_4 : decode cX10_readPair 4 = .ok (.istore_n 1, 1) := by decide +kernel
theorem dX10_readPair_5 : decode cX10_readPair 5 = .ok (.aload_n 0, 1) := by decide +kernel
theorem dX10_readPair_6 : decode cX10_readPair 6 = .ok (.getfield 115, 3) := by decide +kernel
theorem dX10_readPair_9 : decode cX10_readPair 9 = .ok (.ifCond .eq 20, 3) := by decide +kernel
theorem dX10_readPair_12 : decode cX10_readPair 12 = .ok (.aload_n 0, 1) := by decide +kernel
theorem dX10_readPair_13 : decode cX10_readPair 13 = .ok (.bipush 62, 2) := by decide +kernel
theorem dX10_readPair_15 : decode cX10_readPair 15 = .ok (.invokevirtual 142, 3) := by decide +kernel
theorem dX10_readPair_18 : decode cX10_readPair 18 = .ok (.ifCond .ne 11, 3) := by decide +kernel
theorem dX10_readPair_21 : decode cX10_readPair 21 = .ok (.aload_n 0, 1) := by decide +kernel
theorem dX10_readPair_22 : decode cX10_readPair 22 = .ok (.aload_n 0, 1) := by decide +kernel
theorem dX10_readPair_23 : decode cX10_readPair 23 = .ok (.getfield 122, 3) := by decide +kernel
theorem dX10_readPair_26 : decode cX10_readPair 26 = .ok (.invokevirtual 135, 3) := by decide +kernel
theorem dX10_readPair_29 : decode cX10_readPair 29 = .ok (.aload_n 0, 1) := by decide +kernel
theorem dX10_readPair_30 : decode cX10_readPair 30 = .ok (.invokevirtual 132, 3) := by decide +kernel
theorem dX10_readPair_33 : decode cX10_readPair 33 = .ok (.istore_n 2, 1) := by decide +kernel
theorem dX10_readPair_34 : decode cX10_readPair 34 = .ok (.aload_n 0, 1) := by decide +kernel
theorem dX10_readPair_35 : decode cX10_readPair 35 = .ok (.getfield 122, 3) := by decide +kernel
theorem dX10_readPair_38 : decode cX10_readPair 38 = .ok (.istore_n 3, 1) := by decide +kernel
theorem dX10_readPair_39 : decode cX10_readPair 39 = .ok (.iload_n 2, 1) := by decide +kernel
theorem dX10_readPair_40 : decode cX10_readPair 40 = .ok (.ifCond .eq 10, 3) := by decide +kernel
theorem dX10_readPair_43 : decode cX10_readPair 43 = .ok (.aload_n 0, 1) := by decide +kernel
theorem dX10_readPair_44 : decode cX10_readPair 44 = .ok (.invokevirtual 139, 3) := by decide +kernel
theorem dX10_readPair_47 : decode cX10_readPair 47 = .ok (.goto 4, 3) := by decide +kernel
theorem dX10_readPair_50 : decode cX10_readPair 50 = .ok (.iconst 0, 1) := by decide +kernel
theorem dX10_readPair_51 : decode cX10_readPair 51 = .ok (.istore 4, 2) := by decide +kernel
theorem dX10_readPair_53 : decode cX10_readPair 53 = .ok (.iload_n 2, 1) := by decide +kernel
theorem dX10_readPair_54 : decode cX10_readPair 54 = .ok (.ifCond .eq 23, 3) := by decide +kernel
theorem dX10_readPair_57 : decode cX10_readPair 57 = .ok (.iload 4, 2) := by decide +kernel
theorem dX10_readPair_59 : decode cX10_readPair 59 = .ok (.iload_n 1, 1) := by decide +kernel
theorem dX10_readPair_60 : decode cX10_readPair 60 = .ok (.if_icmp .eq 17, 3) := by decide +kernel
theorem dX10_readPair_63 : decode cX10_readPair 63 = .ok (.aload_n 0, 1) := by decide +kernel
theorem dX10_readPair_64 : decode cX10_readPair 64 = .ok (.getfield 29, 3) := by decide +kernel
theorem dX10_readPair_67 : decode cX10_readPair 67 = .ok (.iload_n 1, 1) := by decide +kernel
theorem dX10_readPair_68 : decode cX10_readPair 68 = .ok (.iaload, 1) := by decide +kernel
theorem dX10_readPair_69 : decode cX10_readPair 69 = .ok (.iload 4, 2) := by decide +kernel
theorem dX10_readPair_71 : decode cX10_readPair 71 = .ok (.invokestatic 146, 3) := by decide +kernel
theorem dX10_readPair_74 : decode cX10_readPair 74 = .ok (.ifCond .eq 8, 3) := by decide +kernel
theorem dX10_readPair_77 : decode cX10_readPair 77 = .ok (.aload_n 0, 1) := by decide +kernel
theorem dX10_readPair_78 : decode cX10_readPair 78 = .ok (.iload_n 3, 1) := by decide +kernel
theorem dX10_readPair_79 : decode cX10_readPair 79 = .ok (.invokevirtual 135, 3) := by decide +kernel
theorem dX10_readPair_82 : decode cX10_readPair 82 = .ok (.aload_n 0, 1) := by decide +kernel
theorem dX10_readPair_83 : decode cX10_readPair 83 = .ok (.getfield 115, 3) := by decide +kernel
theorem dX10_readPair_86 : decode cX10_readPair 86 = .ok (.ifCond .eq 42, 3) := by decide +kernel
theorem dX10_readPair_89 : decode cX10_readPair 89 = .ok (.aload_n 0, 1) := by decide +kernel
theorem dX10_readPair_90 : decode cX10_readPair 90 = .ok (.getfield 29, 3) := by decide +kernel
theorem dX10_readPair_93 : decode cX10_readPair 93 = .ok (.iload_n 1, 1) := by decide +kernel
theorem dX10_readPair_94 : decode cX10_readPair 94 = .ok (.dup2, 1) := by decide +kernel
theorem dX10_readPair_95 : decode cX10_readPair 95 = .ok (.iaload, 1) := by decide +kernel
theorem dX10_readPair_96 : decode cX10_readPair 96 = .ok (.iconst 1, 1) := by decide +kernel
theorem dX10_readPair_97 : decode cX10_readPair 97 = .ok (.iload 4, 2) := by decide +kernel
theorem dX10_readPair_99 : decode cX10_readPair 99 = .ok (.ishl, 1) := by decide +kernel
theorem dX10_readPair_100 : decode cX10_readPair 100 = .ok (.ior, 1) := by decide +kernel
theorem dX10_readPair_101 : decode cX10_readPair 101 = .ok (.iastore, 1) := by decide +kernel
theorem dX10_readPair_102 : decode cX10_readPair 102 = .ok (.aload_n 0, 1) := by decide +kernel
theorem dX10_readPair_103 : decode cX10_readPair 103 = .ok (.getfield 29, 3) := by decide +kernel
theorem dX10_readPair_106 : decode cX10_readPair 106 = .ok (.iload 4, 2) := by decide +kernel
theorem dX10_readPair_108 : decode cX10_readPair 108 = .ok (.dup2, 1) := by decide +kernel
theorem dX10_readPair_109 : decode cX10_readPair 109 = .ok (.iaload, 1) := by decide +kernel
theorem dX10_readPair_110 : decode cX10_readPair 110 = .ok (.iconst 1, 1) := by decide +kernel
theorem dX10_readPair_111 : decode cX10_readPair 111 = .ok (.iload_n 1, 1) := by decide +kernel
theorem dX10_readPair_112 : decode cX10_readPair 112 = .ok (.ishl, 1) := by decide +kernel
theorem dX10_readPair_113 : decode cX10_readPair 113 = .ok (.ior, 1) := by decide +kernel
theorem dX10_readPair_114 : decode cX10_readPair 114 = .ok (.iastore, 1) := by decide +kernel
theorem dX10_readPair_115 : decode cX10_readPair 115 = .ok (.aload_n 0, 1) := by decide +kernel
theorem dX10_readPair_116 : decode cX10_readPair 116 = .ok (.getfield 32, 3) := by decide +kernel
theorem dX10_readPair_119 : decode cX10_readPair 119 = .ok (.iload_n 1, 1) := by decide +kernel
theorem dX10_readPair_120 : decode cX10_readPair 120 = .ok (.dup2, 1) := by decide +kernel
theorem dX10_readPair_121 : decode cX10_readPair 121 = .ok (.iaload, 1) := by decide +kernel
theorem dX10_readPair_122 : decode cX10_readPair 122 = .ok (.iconst 1, 1) := by decide +kernel
theorem dX10_readPair_123 : decode cX10_readPair 123 = .ok (.iload 4, 2) := by decide +kernel
theorem dX10_readPair_125 : decode cX10_readPair 125 = .ok (.ishl, 1) := by decide +kernel
theorem dX10_readPair_126 : decode cX10_readPair 126 = .ok (.ior, 1) := by decide +kernel
theorem dX10_readPair_127 : decode cX10_readPair 127 = .ok (.iastore, 1) := by decide +kernel
theorem dX10_readPair_128 : decode cX10_readPair 128 = .ok (.return_, 1) := by decide +kernel
theorem dX10_isWholeRound_0 : decode cX10_isWholeRound 0 = .ok (.iconst 1, 1) := by decide +kernel
theorem dX10_isWholeRound_1 : decode cX10_isWholeRound 1 = .ok (.istore_n 2, 1) := by decide +kernel
theorem dX10_isWholeRound_2 : decode cX10_isWholeRound 2 = .ok (.iconst 0, 1) := by decide +kernel
theorem dX10_isWholeRound_3 : decode cX10_isWholeRound 3 = .ok (.istore_n 3, 1) := by decide +kernel
theorem dX10_isWholeRound_4 : decode cX10_isWholeRound 4 = .ok (.iload_n 3, 1) := by decide +kernel
theorem dX10_isWholeRound_5 : decode cX10_isWholeRound 5 = .ok (.iload_n 1, 1) := by decide +kernel
theorem dX10_isWholeRound_6 : decode cX10_isWholeRound 6 = .ok (.if_icmp .ge 37, 3) := by decide +kernel
theorem dX10_isWholeRound_9 : decode cX10_isWholeRound 9 = .ok (.iload_n 2, 1) := by decide +kernel
theorem dX10_isWholeRound_10 : decode cX10_isWholeRound 10 = .ok (.ifCond .eq 25, 3) := by decide +kernel
theorem dX10_isWholeRound_13 : decode cX10_isWholeRound 13 = .ok (.aload_n 0, 1) := by decide +kernel
theorem dX10_isWholeRound_14 : decode cX10_isWholeRound 14 = .ok (.getfield 29, 3) := by decide +kernel
theorem dX10_isWholeRound_17 : decode cX10_isWholeRound 17 = .ok (.iload_n 3, 1) := by decide +kernel
theorem dX10_isWholeRound_18 : decode cX10_isWholeRound 18 = .ok (.iaload, 1) := by decide +kernel
theorem dX10_isWholeRound_19 : decode cX10_isWholeRound 19 = .ok (.iconst 1, 1) := by decide +kernel
theorem dX10_isWholeRound_20 : decode cX10_isWholeRound 20 = .ok (.iload_n 3, 1) := by decide +kernel
theorem dX10_isWholeRound_21 : decode cX10_isWholeRound 21 = .ok (.ishl, 1) := by decide +kernel
theorem dX10_isWholeRound_22 : decode cX10_isWholeRound 22 = .ok (.ior, 1) := by decide +kernel
theorem dX10_isWholeRound_23 : decode cX10_isWholeRound 23 = .ok (.iconst 1, 1) := by decide +kernel
theorem dX10_isWholeRound_24 : decode cX10_isWholeRound 24 = .ok (.iload_n 1, 1) := by decide +kernel
theorem dX10_isWholeRound_25 : decode cX10_isWholeRound 25 = .ok (.ishl, 1) := by decide +kernel
theorem dX10_isWholeRound_26 : decode cX10_isWholeRound 26 = .ok (.iconst 1, 1) := by decide +kernel
theorem dX10_isWholeRound_27 : decode cX10_isWholeRound 27 = .ok (.isub, 1) := by decide +kernel
theorem dX10_isWholeRound_28 : decode cX10_isWholeRound 28 = .ok (.if_icmp .ne 7, 3) := by decide +kernel
theorem dX10_isWholeRound_31 : decode cX10_isWholeRound 31 = .ok (.iconst 1, 1) := by decide +kernel
theorem dX10_isWholeRound_32 : decode cX10_isWholeRound 32 = .ok (.goto 4, 3) := by decide +kernel
theorem dX10_isWholeRound_35 : decode cX10_isWholeRound 35 = .ok (.iconst 0, 1) := by decide +kernel
theorem dX10_isWholeRound_36 : decode cX10_isWholeRound 36 = .ok (.istore_n 2, 1) := by decide +kernel
theorem dX10_isWholeRound_37 : decode cX10_isWholeRound 37 = .ok (.iinc 3 1, 3) := by decide +kernel
theorem dX10_isWholeRound_40 : decode cX10_isWholeRound 40 = .ok (.goto (-36), 3) := by decide +kernel
theorem dX10_isWholeRound_43 : decode cX10_isWholeRound 43 = .ok (.iload_n 2, 1) := by decide +kernel
theorem dX10_isWholeRound_44 : decode cX10_isWholeRound 44 = .ok (.ireturn, 1) := by decide +kernel
theorem dX10_round_0 : decode cX10_round 0 = .ok (.aload_n 0, 1) := by decide +kernel
theorem dX10_round_1 : decode cX10_round 1 = .ok (.iconst 0, 1) := by decide +kernel
theorem dX10_round_2 : decode cX10_round 2 = .ok (.putfield 90, 3) := by decide +kernel
theorem dX10_round_5 : decode cX10_round 5 = .ok (.aload_n 0, 1) := by decide +kernel
theorem dX10_round_6 : decode cX10_round 6 = .ok (.iconst 0, 1) := by decide +kernel
theorem dX10_round_7 : decode cX10_round 7 = .ok (.putfield 122, 3) := by decide +kernel
theorem dX10_round_10 : decode cX10_round 10 = .ok (.aload_n 0, 1) := by decide +kernel
theorem dX10_round_11 : decode cX10_round 11 = .ok (.iconst 1, 1) := by decide +kernel
theorem dX10_round_12 : decode cX10_round 12 = .ok (.putfield 115, 3) := by decide +kernel
theorem dX10_round_15 : decode cX10_round 15 = .ok (.iconst 0, 1) := by decide +kernel
theorem dX10_round_16 : decode cX10_round 16 = .ok (.istore_n 1, 1) := by decide +kernel
theorem dX10_round_17 : decode cX10_round 17 = .ok (.iload_n 1, 1) := by decide +kernel
theorem dX10_round_18 : decode cX10_round 18 = .ok (.bipush 8, 2) := by decide +kernel
theorem dX10_round_20 : decode cX10_round 20 = .ok (.if_icmp .ge 23, 3) := by decide +kernel
theorem dX10_round_23 : decode cX10_round 23 = .ok (.aload_n 0, 1) := by decide +kernel
theorem dX10_round_24 : decode cX10_round 24 = .ok (.getfield 29, 3) := by decide +kernel
theorem dX10_round_27 : decode cX10_round 27 = .ok (.iload_n 1, 1) := by decide +kernel
theorem dX10_round_28 : decode cX10_round 28 = .ok (.iconst 0, 1) := by decide +kernel
theorem dX10_round_29 : decode cX10_round 29 = .ok (.iastore, 1) := by decide +kernel
theorem dX10_round_30 : decode cX10_round 30 = .ok (.aload_n 0, 1) := by decide +kernel
theorem dX10_round_31 : decode cX10_round 31 = .ok (.getfield 32, 3) := by decide +kernel
theorem dX10_round_34 : decode cX10_round 34 = .ok (.iload_n 1, 1) := by decide +kernel
theorem dX10_round_35 : decode cX10_round 35 = .ok (.iconst 0, 1) := by decide +kernel
theorem dX10_round_36 : decode cX10_round 36 = .ok (.iastore, 1) := by decide +kernel
theorem dX10_round_37 : decode cX10_round 37 = .ok (.iinc 1 1, 3) := by decide +kernel
theorem dX10_round_40 : decode cX10_round 40 = .ok (.goto (-23), 3) := by decide +kernel
theorem dX10_round_43 : decode cX10_round 43 = .ok (.aload_n 0, 1) := by decide +kernel
theorem dX10_round_44 : decode cX10_round 44 = .ok (.invokevirtual 149, 3) := by decide +kernel
theorem dX10_round_47 : decode cX10_round 47 = .ok (.aload_n 0, 1) := by decide +kernel
theorem dX10_round_48 : decode cX10_round 48 = .ok (.bipush 59, 2) := by decide +kernel
theorem dX10_round_50 : decode cX10_round 50 = .ok (.invokevirtual 142, 3) := by decide +kernel
theorem dX10_round_53 : decode cX10_round 53 = .ok (.ifCond .eq 10, 3) := by decide +kernel
theorem dX10_round_56 : decode cX10_round 56 = .ok (.aload_n 0, 1) := by decide +kernel
theorem dX10_round_57 : decode cX10_round 57 = .ok (.invokevirtual 149, 3) := by decide +kernel
theorem dX10_round_60 : decode cX10_round 60 = .ok (.goto (-13), 3) := by decide +kernel
theorem dX10_round_63 : decode cX10_round 63 = .ok (.iconst 0, 1) := by decide +kernel
theorem dX10_round_64 : decode cX10_round 64 = .ok (.istore_n 1, 1) := by decide +kernel
theorem dX10_round_65 : decode cX10_round 65 = .ok (.iconst 0, 1) := by decide +kernel
theorem dX10_round_66 : decode cX10_round 66 = .ok (.istore_n 2, 1) := by decide +kernel
theorem dX10_round_67 : decode cX10_round 67 = .ok (.iload_n 2, 1) := by decide +kernel
theorem dX10_round_68 : decode cX10_round 68 = .ok (.bipush 8, 2) := by decide +kernel
theorem dX10_round_70 : decode cX10_round 70 = .ok (.if_icmp .ge 26, 3) := by decide +kernel
theorem dX10_round_73 : decode cX10_round 73 = .ok (.aload_n 0, 1) := by decide +kernel
theorem dX10_round_74 : decode cX10_round 74 = .ok (.getfield 29, 3) := by decide +kernel
theorem dX10_round_77 : decode cX10_round 77 = .ok (.iload_n 2, 1) := by decide +kernel
theorem dX10_round_78 : decode cX10_round 78 = .ok (.iaload, 1) := by decide +kernel
theorem dX10_round_79 : decode cX10_round 79 = .ok (.ifCond .eq 9, 3) := by decide +kernel
theorem dX10_round_82 : decode cX10_round 82 = .ok (.iload_n 2, 1) := by decide +kernel
theorem dX10_round_83 : decode cX10_round 83 = .ok (.iconst 1, 1) := by decide +kernel
theorem dX10_round_84 : decode cX10_round 84 = .ok (.iadd, 1) := by decide +kernel
theorem dX10_round_85 : decode cX10_round 85 = .ok (.goto 4, 3) := by decide +kernel
theorem dX10_round_88 : decode cX10_round 88 = .ok (.iload_n 1, 1) := by decide +kernel
theorem dX10_round_89 : decode cX10_round 89 = .ok (.istore_n 1, 1) := by decide +kernel
theorem dX10_round_90 : decode cX10_round 90 = .ok (.iinc 2 1, 3) := by decide +kernel
theorem dX10_round_93 : decode cX10_round 93 = .ok (.goto (-26), 3) := by decide +kernel
theorem dX10_round_96 : decode cX10_round 96 = .ok (.aload_n 0, 1) := by decide +kernel
theorem dX10_round_97 : decode cX10_round 97 = .ok (.getfield 115, 3) := by decide +kernel
theorem dX10_round_100 : decode cX10_round 100 = .ok (.ifCond .eq 26, 3) := by decide +kernel
theorem dX10_round_103 : decode cX10_round 103 = .ok (.aload_n 0, 1) := by decide +kernel
theorem dX10_round_104 : decode cX10_round 104 = .ok (.invokevirtual 152, 3) := by decide +kernel
theorem dX10_round_107 : decode cX10_round 107 = .ok (.ifCond .eq 11, 3) := by decide +kernel
theorem dX10_round_110 : decode cX10_round 110 = .ok (.aload_n 0, 1) := by decide +kernel
theorem dX10_round_111 : decode cX10_round 111 = .ok (.iload_n 1, 1) := by decide +kernel
theorem dX10_round_112 : decode cX10_round 112 = .ok (.invokevirtual 155, 3) := by decide +kernel
theorem dX10_round_115 : decode cX10_round 115 = .ok (.ifCond .ne 11, 3) := by decide +kernel
theorem dX10_round_118 : decode cX10_round 118 = .ok (.aload_n 0, 1) := by decide +kernel
theorem dX10_round_119 : decode cX10_round 119 = .ok (.aload_n 0, 1) := by decide +kernel
theorem dX10_round_120 : decode cX10_round 120 = .ok (.getfield 122, 3) := by decide +kernel
theorem dX10_round_123 : decode cX10_round 123 = .ok (.invokevirtual 135, 3) := by decide +kernel
theorem dX10_round_126 : decode cX10_round 126 = .ok (.aload_n 0, 1) := by decide +kernel
theorem dX10_round_127 : decode cX10_round 127 = .ok (.iconst 0, 1) := by decide +kernel
theorem dX10_round_128 : decode cX10_round 128 = .ok (.putfield 112, 3) := by decide +kernel
theorem dX10_round_131 : decode cX10_round 131 = .ok (.aload_n 0, 1) := by decide +kernel
theorem dX10_round_132 : decode cX10_round 132 = .ok (.getfield 115, 3) := by decide +kernel
theorem dX10_round_135 : decode cX10_round 135 = .ok (.ifCond .ne 12, 3) := by decide +kernel
theorem dX10_round_138 : decode cX10_round 138 = .ok (.sipush (-1000), 3) := by decide +kernel
theorem dX10_round_141 : decode cX10_round 141 = .ok (.aload_n 0, 1) := by decide +kernel
theorem dX10_round_142 : decode cX10_round 142 = .ok (.getfield 119, 3) := by decide +kernel
theorem dX10_round_145 : decode cX10_round 145 = .ok (.isub, 1) := by decide +kernel
theorem dX10_round_146 : decode cX10_round 146 = .ok (.ireturn, 1) := by decide +kernel
theorem dX10_round_147 : decode cX10_round 147 = .ok (.aload_n 0, 1) := by decide +kernel
theorem dX10_round_148 : decode cX10_round 148 = .ok (.iload_n 1, 1) := by decide +kernel
theorem dX10_round_149 : decode cX10_round 149 = .ok (.invokevirtual 158, 3) := by decide +kernel
theorem dX10_round_152 : decode cX10_round 152 = .ok (.iconst 0, 1) := by decide +kernel
theorem dX10_round_153 : decode cX10_round 153 = .ok (.istore_n 2, 1) := by decide +kernel
theorem dX10_round_154 : decode cX10_round 154 = .ok (.iload_n 2, 1) := by decide +kernel
theorem dX10_round_155 : decode cX10_round 155 = .ok (.bipush 8, 2) := by decide +kernel
theorem dX10_round_157 : decode cX10_round 157 = .ok (.if_icmp .ge 23, 3) := by decide +kernel
theorem dX10_round_160 : decode cX10_round 160 = .ok (.aload_n 0, 1) := by decide +kernel
theorem dX10_round_161 : decode cX10_round 161 = .ok (.getfield 9, 3) := by decide +kernel
theorem dX10_round_164 : decode cX10_round 164 = .ok (.iconst 1, 1) := by decide +kernel
theorem dX10_round_165 : decode cX10_round 165 = .ok (.iload_n 2, 1) := by decide +kernel
theorem dX10_round_166 : decode cX10_round 166 = .ok (.iadd, 1) := by decide +kernel
theorem dX10_round_167 : decode cX10_round 167 = .ok (.aload_n 0, 1) := by decide +kernel
theorem dX10_round_168 : decode cX10_round 168 = .ok (.getfield 32, 3) := by decide +kernel
theorem dX10_round_171 : decode cX10_round 171 = .ok (.iload_n 2, 1) := by decide +kernel
theorem dX10_round_172 : decode cX10_round 172 = .ok (.iaload, 1) := by decide +kernel
theorem dX10_round_173 : decode cX10_round 173 = .ok (.iastore, 1) := by decide +kernel
theorem dX10_round_174 : decode cX10_round 174 = .ok (.iinc 2 1, 3) := by decide +kernel
theorem dX10_round_177 : decode cX10_round 177 = .ok (.goto (-23), 3) := by decide +kernel
theorem dX10_round_180 : decode cX10_round 180 = .ok (.iload_n 1, 1) := by decide +kernel
theorem dX10_round_181 : decode cX10_round 181 = .ok (.ireturn, 1) := by decide +kernel
theorem dX10_begin_0 : decode cX10_begin 0 = .ok (.aload_n 0, 1) := by decide +kernel
theorem dX10_begin_1 : decode cX10_begin 1 = .ok (.getfield 9, 3) := by decide +kernel
theorem dX10_begin_4 : decode cX10_begin 4 = .ok (.iconst 0, 1) := by decide +kernel
theorem dX10_begin_5 : decode cX10_begin 5 = .ok (.iload_n 1, 1) := by decide +kernel
theorem dX10_begin_6 : decode cX10_begin 6 = .ok (.iastore, 1) := by decide +kernel
theorem dX10_begin_7 : decode cX10_begin 7 = .ok (.iconst 0, 1) := by decide +kernel
theorem dX10_begin_8 : decode cX10_begin 8 = .ok (.istore_n 2, 1) := by decide +kernel
theorem dX10_begin_9 : decode cX10_begin 9 = .ok (.iload_n 2, 1) := by decide +kernel
theorem dX10_begin_10 : decode cX10_begin 10 = .ok (.bipush 8, 2) := by decide +kernel
theorem dX10_begin_12 : decode cX10_begin 12 = .ok (.if_icmp .ge 18, 3) := by decide +kernel
theorem dX10_begin_15 : decode cX10_begin 15 = .ok (.aload_n 0, 1) := by decide +kernel
theorem dX10_begin_16 : decode cX10_begin 16 = .ok (.getfield 9, 3) := by decide +kernel
theorem dX10_begin_19 : decode cX10_begin 19 = .ok (.iconst 1, 1) := by decide +kernel
theorem dX10_begin_20 : decode cX10_begin 20 = .ok (.iload_n 2, 1) := by decide +kernel
theorem dX10_begin_21 : decode cX10_begin 21 = .ok (.iadd, 1) := by decide +kernel
theorem dX10_begin_22 : decode cX10_begin 22 = .ok (.iconst 0, 1) := by decide +kernel
theorem dX10_begin_23 : decode cX10_begin 23 = .ok (.iastore, 1) := by decide +kernel
theorem dX10_begin_24 : decode cX10_begin 24 = .ok (.iinc 2 1, 3) := by decide +kernel
theorem dX10_begin_27 : decode cX10_begin 27 = .ok (.goto (-18), 3) := by decide +kernel
theorem dX10_begin_30 : decode cX10_begin 30 = .ok (.aload_n 0, 1) := by decide +kernel
theorem dX10_begin_31 : decode cX10_begin 31 = .ok (.iconst 0, 1) := by decide +kernel
theorem dX10_begin_32 : decode cX10_begin 32 = .ok (.putfield 109, 3) := by decide +kernel
theorem dX10_begin_35 : decode cX10_begin 35 = .ok (.aload_n 0, 1) := by decide +kernel
theorem dX10_begin_36 : decode cX10_begin 36 = .ok (.getfield 21, 3) := by decide +kernel
theorem dX10_begin_39 : decode cX10_begin 39 = .ok (.iconst 0, 1) := by decide +kernel
theorem dX10_begin_40 : decode cX10_begin 40 = .ok (.iconst 0, 1) := by decide +kernel
theorem dX10_begin_41 : decode cX10_begin 41 = .ok (.bastore, 1) := by decide +kernel
theorem dX10_begin_42 : decode cX10_begin 42 = .ok (.aload_n 0, 1) := by decide +kernel
theorem dX10_begin_43 : decode cX10_begin 43 = .ok (.getfield 21, 3) := by decide +kernel
theorem dX10_begin_46 : decode cX10_begin 46 = .ok (.iconst 1, 1) := by decide +kernel
theorem dX10_begin_47 : decode cX10_begin 47 = .ok (.iconst 0, 1) := by decide +kernel
theorem dX10_begin_48 : decode cX10_begin 48 = .ok (.bastore, 1) := by decide +kernel
theorem dX10_begin_49 : decode cX10_begin 49 = .ok (.return_, 1) := by decide +kernel
theorem dX10_drawn_0 : decode cX10_drawn 0 = .ok (.aload_n 0, 1) := by decide +kernel
theorem dX10_drawn_1 : decode cX10_drawn 1 = .ok (.iconst 0, 1) := by decide +kernel
theorem dX10_drawn_2 : decode cX10_drawn 2 = .ok (.putfield 90, 3) := by decide +kernel
theorem dX10_drawn_5 : decode cX10_drawn 5 = .ok (.iload_n 1, 1) := by decide +kernel
theorem dX10_drawn_6 : decode cX10_drawn 6 = .ok (.i2l, 1) := by decide +kernel
theorem dX10_drawn_7 : decode cX10_drawn 7 = .ok (.lconst 1, 1) := by decide +kernel
theorem dX10_drawn_8 : decode cX10_drawn 8 = .ok (.ldc2_w 161, 3) := by decide +kernel
theorem dX10_drawn_11 : decode cX10_drawn 11 = .ok (.invokestatic 93, 3) := by decide +kernel
theorem dX10_drawn_14 : decode cX10_drawn 14 = .ok (.ifCond .eq 15, 3) := by decide +kernel
theorem dX10_drawn_17 : decode cX10_drawn 17 = .ok (.iload_n 2, 1) := by decide +kernel
theorem dX10_drawn_18 : decode cX10_drawn 18 = .ok (.i2l, 1) := by decide +kernel
theorem dX10_drawn_19 : decode cX10_drawn 19 = .ok (.lconst 0, 1) := by decide +kernel
theorem dX10_drawn_20 : decode cX10_drawn 20 = .ok (.ldc2_w 163, 3) := by decide +kernel
theorem dX10_drawn_23 : decode cX10_drawn 23 = .ok (.invokestatic 93, 3) := by decide +kernel
theorem dX10_drawn_26 : decode cX10_drawn 26 = .ok (.ifCond .ne 5, 3) := by decide +kernel
theorem dX10_drawn_29 : decode cX10_drawn 29 = .ok (.iconst (-1), 1) := by decide +kernel
theorem dX10_drawn_30 : decode cX10_drawn 30 = .ok (.ireturn, 1) := by decide +kernel
theorem dX10_drawn_31 : decode cX10_drawn 31 = .ok (.aload_n 0, 1) := by decide +kernel
theorem dX10_drawn_32 : decode cX10_drawn 32 = .ok (.iload_n 1, 1) := by decide +kernel
theorem dX10_drawn_33 : decode cX10_drawn 33 = .ok (.invokevirtual 158, 3) := by decide +kernel
theorem dX10_drawn_36 : decode cX10_drawn 36 = .ok (.iload_n 2, 1) := by decide +kernel
theorem dX10_drawn_37 : decode cX10_drawn 37 = .ok (.istore_n 3, 1) := by decide +kernel
theorem dX10_drawn_38 : decode cX10_drawn 38 = .ok (.iconst 0, 1) := by decide +kernel
theorem dX10_drawn_39 : decode cX10_drawn 39 = .ok (.istore 4, 2) := by decide +kernel
theorem dX10_drawn_41 : decode cX10_drawn 41 = .ok (.iload 4, 2) := by decide +kernel
theorem dX10_drawn_43 : decode cX10_drawn 43 = .ok (.iload_n 1, 1) := by decide +kernel
theorem dX10_drawn_44 : decode cX10_drawn 44 = .ok (.if_icmp .ge 81, 3) := by decide +kernel
theorem dX10_drawn_47 : decode cX10_drawn 47 = .ok (.iload 4, 2) := by decide +kernel
theorem dX10_drawn_49 : decode cX10_drawn 49 = .ok (.iconst 1, 1) := by decide +kernel
theorem dX10_drawn_50 : decode cX10_drawn 50 = .ok (.iadd, 1) := by decide +kernel
theorem dX10_drawn_51 : decode cX10_drawn 51 = .ok (.istore 5, 2) := by decide +kernel
theorem dX10_drawn_53 : decode cX10_drawn 53 = .ok (.iload 5, 2) := by decide +kernel
theorem dX10_drawn_55 : decode cX10_drawn 55 = .ok (.iload_n 1, 1) := by decide +kernel
theorem dX10_drawn_56 : decode cX10_drawn 56 = .ok (.if_icmp .ge 63, 3) := by decide +kernel
theorem dX10_drawn_59 : decode cX10_drawn 59 = .ok (.sipush 1103, 3) := by decide +kernel
theorem dX10_drawn_62 : decode cX10_drawn 62 = .ok (.iload_n 3, 1) := by decide +kernel
theorem dX10_drawn_63 : decode cX10_drawn 63 = .ok (.imul, 1) := by decide +kernel
theorem dX10_drawn_64 : decode cX10_drawn 64 = .ok (.sipush 12345, 3) := by decide +kernel
theorem dX10_drawn_67 : decode cX10_drawn 67 = .ok (.iadd, 1) := by decide +kernel
theorem dX10_drawn_68 : decode cX10_drawn 68 = .ok (.ldc 165, 2) := by decide +kernel
theorem dX10_drawn_70 : decode cX10_drawn 70 = .ok (.irem, 1) := by decide +kernel
theorem dX10_drawn_71 : decode cX10_drawn 71 = .ok (.istore_n 3, 1) := by decide +kernel
theorem dX10_drawn_72 : decode cX10_drawn 72 = .ok (.iload_n 3, 1) := by decide +kernel
theorem dX10_drawn_73 : decode cX10_drawn 73 = .ok (.iconst 2, 1) := by decide +kernel
theorem dX10_drawn_74 : decode cX10_drawn 74 = .ok (.irem, 1) := by decide +kernel
theorem dX10_drawn_75 : decode cX10_drawn 75 = .ok (.ifCond .ne 22, 3) := by decide +kernel
theorem dX10_drawn_78 : decode cX10_drawn 78 = .ok (.aload_n 0, 1) := by decide +kernel
theorem dX10_drawn_79 : decode cX10_drawn 79 = .ok (.getfield 9, 3) := by decide +kernel
theorem dX10_drawn_82 : decode cX10_drawn 82 = .ok (.iconst 1, 1) := by decide +kernel
theorem dX10_drawn_83 : decode cX10_drawn 83 = .ok (.iload 4, 2) := by decide +kernel
theorem dX10_drawn_85 : decode cX10_drawn 85 = .ok (.iadd, 1) := by decide +kernel
theorem dX10_drawn_86 : decode cX10_drawn 86 = .ok (.dup2, 1) := by decide +kernel
theorem dX10_drawn_87 : decode cX10_drawn 87 = .ok (.iaload, 1) := by decide +kernel
theorem dX10_drawn_88 : decode cX10_drawn 88 = .ok (.iconst 1, 1) := by decide +kernel
theorem dX10_drawn_89 : decode cX10_drawn 89 = .ok (.iload 5, 2) := by decide +kernel
theorem dX10_drawn_91 : decode cX10_drawn 91 = .ok (.ishl, 1) := by decide +kernel
theorem dX10_drawn_92 : decode cX10_drawn 92 = .ok (.ior, 1) := by decide +kernel
theorem dX10_drawn_93 : decode cX10_drawn 93 = .ok (.iastore, 1) := by decide +kernel
theorem dX10_drawn_94 : decode cX10_drawn 94 = .ok (.goto 19, 3) := by decide +kernel
theorem dX10_drawn_97 : decode cX10_drawn 97 = .ok (.aload_n 0, 1) := by decide +kernel
theorem dX10_drawn_98 : decode cX10_drawn 98 = .ok (.getfield 9, 3) := by decide +kernel
theorem dX10_drawn_101 : decode cX10_drawn 101 = .ok (.iconst 1, 1) := by decide +kernel
theorem dX10_drawn_102 : decode cX10_drawn 102 = .ok (.iload 5, 2) := by decide +kernel
theorem dX10_drawn_104 : decode cX10_drawn 104 = .ok (.iadd, 1) := by decide +kernel
theorem dX10_drawn_105 : decode cX10_drawn 105 = .ok (.dup2, 1) := by decide +kernel
theorem dX10_drawn_106 : decode cX10_drawn 106 = .ok (.iaload, 1) := by decide +kernel
theorem dX10_drawn_107 : decode cX10_drawn 107 = .ok (.iconst 1, 1) := by decide +kernel
theorem dX10_drawn_108 : decode cX10_drawn 108 = .ok (.iload 4, 2) := by decide +kernel
theorem dX10_drawn_110 : decode cX10_drawn 110 = .ok (.ishl, 1) := by decide +kernel
theorem dX10_drawn_111 : decode cX10_drawn 111 = .ok (.ior, 1) := by decide +kernel
theorem dX10_drawn_112 : decode cX10_drawn 112 = .ok (.iastore, 1) := by decide +kernel
theorem dX10_drawn_113 : decode cX10_drawn 113 = .ok (.iinc 5 1, 3) := by decide +kernel
theorem dX10_drawn_116 : decode cX10_drawn 116 = .ok (.goto (-63), 3) := by decide +kernel
theorem dX10_drawn_119 : decode cX10_drawn 119 = .ok (.iinc 4 1, 3) := by decide +kernel
theorem dX10_drawn_122 : decode cX10_drawn 122 = .ok (.goto (-81), 3) := by decide +kernel
theorem dX10_drawn_125 : decode cX10_drawn 125 = .ok (.iload_n 1, 1) := by decide +kernel
theorem dX10_drawn_126 : decode cX10_drawn 126 = .ok (.ireturn, 1) := by decide +kernel
theorem dX10_covers_0 : decode cX10_covers 0 = .ok (.aload_n 0, 1) := by decide +kernel
theorem dX10_covers_1 : decode cX10_covers 1 = .ok (.iload_n 1, 1) := by decide +kernel
theorem dX10_covers_2 : decode cX10_covers 2 = .ok (.invokevirtual 166, 3) := by decide +kernel
theorem dX10_covers_5 : decode cX10_covers 5 = .ok (.iload_n 2, 1) := by decide +kernel
theorem dX10_covers_6 : decode cX10_covers 6 = .ok (.invokestatic 146, 3) := by decide +kernel
theorem dX10_covers_9 : decode cX10_covers 9 = .ok (.ifCond .eq 25, 3) := by decide +kernel
theorem dX10_covers_12 : decode cX10_covers 12 = .ok (.aload_n 0, 1) := by decide +kernel
theorem dX10_covers_13 : decode cX10_covers 13 = .ok (.iload_n 2, 1) := by decide +kernel
theorem dX10_covers_14 : decode cX10_covers 14 = .ok (.invokevirtual 166, 3) := by decide +kernel
theorem dX10_covers_17 : decode cX10_covers 17 = .ok (.iload_n 3, 1) := by decide +kernel
theorem dX10_covers_18 : decode cX10_covers 18 = .ok (.iand, 1) := by decide +kernel
theorem dX10_covers_19 : decode cX10_covers 19 = .ok (.aload_n 0, 1) := by decide +kernel
theorem dX10_covers_20 : decode cX10_covers 20 = .ok (.iload_n 1, 1) := by decide +kernel
theorem dX10_covers_21 : decode cX10_covers 21 = .ok (.invokevirtual 166, 3) := by decide +kernel
theorem dX10_covers_24 : decode cX10_covers 24 = .ok (.invokestatic 105, 3) := by decide +kernel
theorem dX10_covers_27 : decode cX10_covers 27 = .ok (.ifCond .eq 7, 3) := by decide +kernel
theorem dX10_covers_30 : decode cX10_covers 30 = .ok (.iconst 1, 1) := by decide +kernel
theorem dX10_covers_31 : decode cX10_covers 31 = .ok (.goto 4, 3) := by decide +kernel
theorem dX10_covers_34 : decode cX10_covers 34 = .ok (.iconst 0, 1) := by decide +kernel
theorem dX10_covers_35 : decode cX10_covers 35 = .ok (.ireturn, 1) := by decide +kernel
theorem dX10_first_0 : decode cX10_first 0 = .ok (.iconst 0, 1) := by decide +kernel
theorem dX10_first_1 : decode cX10_first 1 = .ok (.istore_n 1, 1) := by decide +kernel
theorem dX10_first_2 : decode cX10_first 2 = .ok (.iload_n 1, 1) := by decide +kernel
theorem dX10_first_3 : decode cX10_first 3 = .ok (.bipush 8, 2) := by decide +kernel
theorem dX10_first_5 : decode cX10_first 5 = .ok (.if_icmp .ge 17, 3) := by decide +kernel
theorem dX10_first_8 : decode cX10_first 8 = .ok (.iload_n 0, 1) := by decide +kernel
theorem dX10_first_9 : decode cX10_first 9 = .ok (.iload_n 1, 1) := by decide +kernel
theorem dX10_first_10 : decode cX10_first 10 = .ok (.invokestatic 146, 3) := by decide +kernel
theorem dX10_first_13 : decode cX10_first 13 = .ok (.ifCond .ne 9, 3) := by decide +kernel
theorem dX10_first_16 : decode cX10_first 16 = .ok (.iinc 1 1, 3) := by decide +kernel
theorem dX10_first_19 : decode cX10_first 19 = .ok (.goto (-17), 3) := by decide +kernel
theorem dX10_first_22 : decode cX10_first 22 = .ok (.iload_n 1, 1) := by decide +kernel
theorem dX10_first_23 : decode cX10_first 23 = .ok (.bipush 8, 2) := by decide +kernel
theorem dX10_first_25 : decode cX10_first 25 = .ok (.if_icmp .ge 7, 3) := by decide +kernel
theorem dX10_first_28 : decode cX10_first 28 = .ok (.iload_n 1, 1) := by decide +kernel
theorem dX10_first_29 : decode cX10_first 29 = .ok (.goto 4, 3) := by decide +kernel
theorem dX10_first_32 : decode cX10_first 32 = .ok (.iconst (-1), 1) := by decide +kernel
theorem dX10_first_33 : decode cX10_first 33 = .ok (.ireturn, 1) := by decide +kernel
theorem dX10_duel_0 : decode cX10_duel 0 = .ok (.aload_n 0, 1) := by decide +kernel
theorem dX10_duel_1 : decode cX10_duel 1 = .ok (.aload_n 0, 1) := by decide +kernel
theorem dX10_duel_2 : decode cX10_duel 2 = .ok (.iload_n 1, 1) := by decide +kernel
theorem dX10_duel_3 : decode cX10_duel 3 = .ok (.invokevirtual 170, 3) := by decide +kernel
theorem dX10_duel_6 : decode cX10_duel 6 = .ok (.ifCond .eq 20, 3) := by decide +kernel
theorem dX10_duel_9 : decode cX10_duel 9 = .ok (.aload_n 0, 1) := by decide +kernel
theorem dX10_duel_10 : decode cX10_duel 10 = .ok (.iload_n 2, 1) := by decide +kernel
theorem dX10_duel_11 : decode cX10_duel 11 = .ok (.invokevirtual 170, 3) := by decide +kernel
theorem dX10_duel_14 : decode cX10_duel 14 = .ok (.ifCond .eq 12, 3) := by decide +kernel
theorem dX10_duel_17 : decode cX10_duel 17 = .ok (.iload_n 1, 1) := by decide +kernel
theorem dX10_duel_18 : decode cX10_duel 18 = .ok (.iload_n 2, 1) := by decide +kernel
theorem dX10_duel_19 : decode cX10_duel 19 = .ok (.if_icmp .eq 7, 3) := by decide +kernel
theorem dX10_duel_22 : decode cX10_duel 22 = .ok (.iconst 0, 1) := by decide +kernel
theorem dX10_duel_23 : decode cX10_duel 23 = .ok (.goto 4, 3) := by decide +kernel
theorem dX10_duel_26 : decode cX10_duel 26 = .ok (.iconst 1, 1) := by decide +kernel
theorem dX10_duel_27 : decode cX10_duel 27 = .ok (.putfield 90, 3) := by decide +kernel
theorem dX10_duel_30 : decode cX10_duel 30 = .ok (.aload_n 0, 1) := by decide +kernel
theorem dX10_duel_31 : decode cX10_duel 31 = .ok (.getfield 90, 3) := by decide +kernel
theorem dX10_duel_34 : decode cX10_duel 34 = .ok (.iconst 1, 1) := by decide +kernel
theorem dX10_duel_35 : decode cX10_duel 35 = .ok (.if_icmp .ne 5, 3) := by decide +kernel
theorem dX10_duel_38 : decode cX10_duel 38 = .ok (.iconst 0, 1) := by decide +kernel
theorem dX10_duel_39 : decode cX10_duel 39 = .ok (.ireturn, 1) := by decide +kernel
theorem dX10_duel_40 : decode cX10_duel 40 = .ok (.iload_n 3, 1) := by decide +kernel
theorem dX10_duel_41 : decode cX10_duel 41 = .ok (.tableswitch 79 0 2 #[27, 45, 64], 27) := by decide +kernel
theorem dX10_duel_68 : decode cX10_duel 68 = .ok (.aload_n 0, 1) := by decide +kernel
theorem dX10_duel_69 : decode cX10_duel 69 = .ok (.iload_n 1, 1) := by decide +kernel
theorem dX10_duel_70 : decode cX10_duel 70 = .ok (.invokevirtual 166, 3) := by decide +kernel
theorem dX10_duel_73 : decode cX10_duel 73 = .ok (.iload_n 2, 1) := by decide +kernel
theorem dX10_duel_74 : decode cX10_duel 74 = .ok (.invokestatic 146, 3) := by decide +kernel
theorem dX10_duel_77 : decode cX10_duel 77 = .ok (.ifCond .eq 7, 3) := by decide +kernel
theorem dX10_duel_80 : decode cX10_duel 80 = .ok (.iconst 1, 1) := by decide +kernel
theorem dX10_duel_81 : decode cX10_duel 81 = .ok (.goto 4, 3) := by decide +kernel
theorem dX10_duel_84 : decode cX10_duel 84 = .ok (.iconst 0, 1) := by decide +kernel
theorem dX10_duel_85 : decode cX10_duel 85 = .ok (.ireturn, 1) := by decide +kernel
theorem dX10_duel_86 : decode cX10_duel 86 = .ok (.aload_n 0, 1) := by decide +kernel
theorem dX10_duel_87 : decode cX10_duel 87 = .ok (.iload_n 1, 1) := by decide +kernel
theorem dX10_duel_88 : decode cX10_duel 88 = .ok (.iload_n 2, 1) := by decide +kernel
theorem dX10_duel_89 : decode cX10_duel 89 = .ok (.aload_n 0, 1) := by decide +kernel
theorem dX10_duel_90 : decode cX10_duel 90 = .ok (.invokevirtual 101, 3) := by decide +kernel
theorem dX10_duel_93 : decode cX10_duel 93 = .ok (.invokevirtual 173, 3) := by decide +kernel
theorem dX10_duel_96 : decode cX10_duel 96 = .ok (.ifCond .eq 7, 3) := by decide +kernel
theorem dX10_duel_99 : decode cX10_duel 99 = .ok (.iconst 1, 1) := by decide +kernel
theorem dX10_duel_100 : decode cX10_duel 100 = .ok (.goto 4, 3) := by decide +kernel
theorem dX10_duel_103 : decode cX10_duel 103 = .ok (.iconst 0, 1) := by decide +kernel
theorem dX10_duel_104 : decode cX10_duel 104 = .ok (.ireturn, 1) := by decide +kernel
theorem dX10_duel_105 : decode cX10_duel 105 = .ok (.aload_n 0, 1) := by decide +kernel
theorem dX10_duel_106 : decode cX10_duel 106 = .ok (.iload_n 1, 1) := by decide +kernel
theorem dX10_duel_107 : decode cX10_duel 107 = .ok (.invokevirtual 166, 3) := by decide +kernel
theorem dX10_duel_110 : decode cX10_duel 110 = .ok (.aload_n 0, 1) := by decide +kernel
theorem dX10_duel_111 : decode cX10_duel 111 = .ok (.iload_n 2, 1) := by decide +kernel
theorem dX10_duel_112 : decode cX10_duel 112 = .ok (.invokevirtual 177, 3) := by decide +kernel
theorem dX10_duel_115 : decode cX10_duel 115 = .ok (.iand, 1) := by decide +kernel
theorem dX10_duel_116 : decode cX10_duel 116 = .ok (.invokestatic 180, 3) := by decide +kernel
theorem dX10_duel_119 : decode cX10_duel 119 = .ok (.ireturn, 1) := by decide +kernel
theorem dX10_duel_120 : decode cX10_duel 120 = .ok (.iconst (-1), 1) := by decide +kernel
theorem dX10_duel_121 : decode cX10_duel 121 = .ok (.ireturn, 1) := by decide +kernel
theorem dX10_beaten_0 : decode cX10_beaten 0 = .ok (.aload_n 0, 1) := by decide +kernel
theorem dX10_beaten_1 : decode cX10_beaten 1 = .ok (.iconst 0, 1) := by decide +kernel
theorem dX10_beaten_2 : decode cX10_beaten 2 = .ok (.putfield 90, 3) := by decide +kernel
theorem dX10_beaten_5 : decode cX10_beaten 5 = .ok (.aload_n 0, 1) := by decide +kernel
theorem dX10_beaten_6 : decode cX10_beaten 6 = .ok (.iload_n 1, 1) := by decide +kernel
theorem dX10_beaten_7 : decode cX10_beaten 7 = .ok (.invokevirtual 170, 3) := by decide +kernel
theorem dX10_beaten_10 : decode cX10_beaten 10 = .ok (.ifCond .eq 21, 3) := by decide +kernel
theorem dX10_beaten_13 : decode cX10_beaten 13 = .ok (.aload_n 0, 1) := by decide +kernel
theorem dX10_beaten_14 : decode cX10_beaten 14 = .ok (.iload_n 2, 1) := by decide +kernel
theorem dX10_beaten_15 : decode cX10_beaten 15 = .ok (.invokevirtual 183, 3) := by decide +kernel
theorem dX10_beaten_18 : decode cX10_beaten 18 = .ok (.ifCond .eq 13, 3) := by decide +kernel
theorem dX10_beaten_21 : decode cX10_beaten 21 = .ok (.aload_n 0, 1) := by decide +kernel
theorem dX10_beaten_22 : decode cX10_beaten 22 = .ok (.iload_n 1, 1) := by decide +kernel
theorem dX10_beaten_23 : decode cX10_beaten 23 = .ok (.invokevirtual 166, 3) := by decide +kernel
theorem dX10_beaten_26 : decode cX10_beaten 26 = .ok (.iload_n 2, 1) := by decide +kernel
theorem dX10_beaten_27 : decode cX10_beaten 27 = .ok (.iand, 1) := by decide +kernel
theorem dX10_beaten_28 : decode cX10_beaten 28 = .ok (.goto 4, 3) := by decide +kernel
theorem dX10_beaten_31 : decode cX10_beaten 31 = .ok (.iconst (-1), 1) := by decide +kernel
theorem dX10_beaten_32 : decode cX10_beaten 32 = .ok (.ireturn, 1) := by decide +kernel
theorem dX10_turn_0 : decode cX10_turn 0 = .ok (.aload_n 0, 1) := by decide +kernel
theorem dX10_turn_1 : decode cX10_turn 1 = .ok (.iconst 0, 1) := by decide +kernel
theorem dX10_turn_2 : decode cX10_turn 2 = .ok (.putfield 90, 3) := by decide +kernel
theorem dX10_turn_5 : decode cX10_turn 5 = .ok (.iload_n 1, 1) := by decide +kernel
theorem dX10_turn_6 : decode cX10_turn 6 = .ok (.iload_n 2, 1) := by decide +kernel
theorem dX10_turn_7 : decode cX10_turn 7 = .ok (.if_icmp .ne 5, 3) := by decide +kernel
theorem dX10_turn_10 : decode cX10_turn 10 = .ok (.iconst (-1), 1) := by decide +kernel
theorem dX10_turn_11 : decode cX10_turn 11 = .ok (.ireturn, 1) := by decide +kernel
theorem dX10_turn_12 : decode cX10_turn 12 = .ok (.aload_n 0, 1) := by decide +kernel
theorem dX10_turn_13 : decode cX10_turn 13 = .ok (.iload_n 1, 1) := by decide +kernel
theorem dX10_turn_14 : decode cX10_turn 14 = .ok (.invokevirtual 170, 3) := by decide +kernel
theorem dX10_turn_17 : decode cX10_turn 17 = .ok (.ifCond .eq 11, 3) := by decide +kernel
theorem dX10_turn_20 : decode cX10_turn 20 = .ok (.aload_n 0, 1) := by decide +kernel
theorem dX10_turn_21 : decode cX10_turn 21 = .ok (.iload_n 2, 1) := by decide +kernel
theorem dX10_turn_22 : decode cX10_turn 22 = .ok (.invokevirtual 170, 3) := by decide +kernel
theorem dX10_turn_25 : decode cX10_turn 25 = .ok (.ifCond .ne 6, 3) := by decide +kernel
theorem dX10_turn_28 : decode cX10_turn 28 = .ok (.bipush (-2), 2) := by decide +kernel
theorem dX10_turn_30 : decode cX10_turn 30 = .ok (.ireturn, 1) := by decide +kernel
theorem dX10_turn_31 : decode cX10_turn 31 = .ok (.aload_n 0, 1) := by decide +kernel
theorem dX10_turn_32 : decode cX10_turn 32 = .ok (.invokevirtual 186, 3) := by decide +kernel
theorem dX10_turn_35 : decode cX10_turn 35 = .ok (.aload_n 0, 1) := by decide +kernel
theorem dX10_turn_36 : decode cX10_turn 36 = .ok (.iload_n 1, 1) := by decide +kernel
theorem dX10_turn_37 : decode cX10_turn 37 = .ok (.iload_n 2, 1) := by decide +kernel
theorem dX10_turn_38 : decode cX10_turn 38 = .ok (.invokevirtual 189, 3) := by decide +kernel
theorem dX10_turn_41 : decode cX10_turn 41 = .ok (.aload_n 0, 1) := by decide +kernel
theorem dX10_turn_42 : decode cX10_turn 42 = .ok (.iload_n 1, 1) := by decide +kernel
theorem dX10_turn_43 : decode cX10_turn 43 = .ok (.invokevirtual 166, 3) := by decide +kernel
theorem dX10_turn_46 : decode cX10_turn 46 = .ok (.iload_n 2, 1) := by decide +kernel
theorem dX10_turn_47 : decode cX10_turn 47 = .ok (.invokestatic 146, 3) := by decide +kernel
theorem dX10_turn_50 : decode cX10_turn 50 = .ok (.ifCond .eq 7, 3) := by decide +kernel
theorem dX10_turn_53 : decode cX10_turn 53 = .ok (.iload_n 1, 1) := by decide +kernel
theorem dX10_turn_54 : decode cX10_turn 54 = .ok (.goto 4, 3) := by decide +kernel
theorem dX10_turn_57 : decode cX10_turn 57 = .ok (.iload_n 2, 1) := by decide +kernel
theorem dX10_turn_58 : decode cX10_turn 58 = .ok (.ireturn, 1) := by decide +kernel
theorem dX10_join_0 : decode cX10_join 0 = .ok (.aload_n 0, 1) := by decide +kernel
theorem dX10_join_1 : decode cX10_join 1 = .ok (.iconst 0, 1) := by decide +kernel
theorem dX10_join_2 : decode cX10_join 2 = .ok (.putfield 90, 3) := by decide +kernel
theorem dX10_join_5 : decode cX10_join 5 = .ok (.iload_n 1, 1) := by decide +kernel
theorem dX10_join_6 : decode cX10_join 6 = .ok (.ifCond .lt 14, 3) := by decide +kernel
theorem dX10_join_9 : decode cX10_join 9 = .ok (.iload_n 1, 1) := by decide +kernel
theorem dX10_join_10 : decode cX10_join 10 = .ok (.aload_n 0, 1) := by decide +kernel
theorem dX10_join_11 : decode cX10_join 11 = .ok (.invokevirtual 101, 3) := by decide +kernel
theorem dX10_join_14 : decode cX10_join 14 = .ok (.invokestatic 105, 3) := by decide +kernel
theorem dX10_join_17 : decode cX10_join 17 = .ok (.ifCond .ne 5, 3) := by decide +kernel
theorem dX10_join_20 : decode cX10_join 20 = .ok (.iconst (-1), 1) := by decide +kernel
theorem dX10_join_21 : decode cX10_join 21 = .ok (.ireturn, 1) := by decide +kernel
theorem dX10_join_22 : decode cX10_join 22 = .ok (.aload_n 0, 1) := by decide +kernel
theorem dX10_join_23 : decode cX10_join 23 = .ok (.invokevirtual 97, 3) := by decide +kernel
theorem dX10_join_26 : decode cX10_join 26 = .ok (.ifCond .ne 6, 3) := by decide +kernel
theorem dX10_join_29 : decode cX10_join 29 = .ok (.bipush (-2), 2) := by decide +kernel
theorem dX10_join_31 : decode cX10_join 31 = .ok (.ireturn, 1) := by decide +kernel
theorem dX10_join_32 : decode cX10_join 32 = .ok (.aload_n 0, 1) := by decide +kernel
theorem dX10_join_33 : decode cX10_join 33 = .ok (.invokevirtual 193, 3) := by decide +kernel
theorem dX10_join_36 : decode cX10_join 36 = .ok (.bipush 8, 2) := by decide +kernel
theorem dX10_join_38 : decode cX10_join 38 = .ok (.if_icmp .ne 6, 3) := by decide +kernel
theorem dX10_join_41 : decode cX10_join 41 = .ok (.bipush (-3), 2) := by decide +kernel
theorem dX10_join_43 : decode cX10_join 43 = .ok (.ireturn, 1) := by decide +kernel
theorem dX10_join_44 : decode cX10_join 44 = .ok (.aload_n 0, 1) := by decide +kernel
theorem dX10_join_45 : decode cX10_join 45 = .ok (.invokevirtual 186, 3) := by decide +kernel
theorem dX10_join_48 : decode cX10_join 48 = .ok (.aload_n 0, 1) := by decide +kernel
theorem dX10_join_49 : decode cX10_join 49 = .ok (.invokevirtual 193, 3) := by decide +kernel
theorem dX10_join_52 : decode cX10_join 52 = .ok (.istore_n 2, 1) := by decide +kernel
theorem dX10_join_53 : decode cX10_join 53 = .ok (.iconst 0, 1) := by decide +kernel
theorem dX10_join_54 : decode cX10_join 54 = .ok (.istore_n 3, 1) := by decide +kernel
theorem dX10_join_55 : decode cX10_join 55 = .ok (.iload_n 3, 1) := by decide +kernel
theorem dX10_join_56 : decode cX10_join 56 = .ok (.iload_n 2, 1) := by decide +kernel
theorem dX10_join_57 : decode cX10_join 57 = .ok (.if_icmp .ge 35, 3) := by decide +kernel
theorem dX10_join_60 : decode cX10_join 60 = .ok (.aload_n 0, 1) := by decide +kernel
theorem dX10_join_61 : decode cX10_join 61 = .ok (.getfield 9, 3) := by decide +kernel
theorem dX10_join_64 : decode cX10_join 64 = .ok (.iconst 1, 1) := by decide +kernel
theorem dX10_join_65 : decode cX10_join 65 = .ok (.iload_n 3, 1) := by decide +kernel
theorem dX10_join_66 : decode cX10_join 66 = .ok (.iadd, 1) := by decide +kernel
theorem dX10_join_67 : decode cX10_join 67 = .ok (.dup2, 1) := by decide +kernel
theorem dX10_join_68 : decode cX10_join 68 = .ok (.iaload, 1) := by decide +kernel
theorem dX10_join_69 : decode cX10_join 69 = .ok (.iload_n 1, 1) := by decide +kernel
theorem dX10_join_70 : decode cX10_join 70 = .ok (.iload_n 3, 1) := by decide +kernel
theorem dX10_join_71 : decode cX10_join 71 = .ok (.invokestatic 146, 3) := by decide +kernel
theorem dX10_join_74 : decode cX10_join 74 = .ok (.ifCond .eq 7, 3) := by decide +kernel
theorem dX10_join_77 : decode cX10_join 77 = .ok (.iconst 0, 1) := by decide +kernel
theorem dX10_join_78 : decode cX10_join 78 = .ok (.goto 6, 3) := by decide +kernel
theorem dX10_join_81 : decode cX10_join 81 = .ok (.iconst 1, 1) := by decide +kernel
theorem dX10_join_82 : decode cX10_join 82 = .ok (.iload_n 2, 1) := by decide +kernel
theorem dX10_join_83 : decode cX10_join 83 = .ok (.ishl, 1) := by decide +kernel
theorem dX10_join_84 : decode cX10_join 84 = .ok (.ior, 1) := by decide +kernel
theorem dX10_join_85 : decode cX10_join 85 = .ok (.iastore, 1) := by decide +kernel
theorem dX10_join_86 : decode cX10_join 86 = .ok (.iinc 3 1, 3) := by decide +kernel
theorem dX10_join_89 : decode cX10_join 89 = .ok (.goto (-34), 3) := by decide +kernel
theorem dX10_join_92 : decode cX10_join 92 = .ok (.aload_n 0, 1) := by decide +kernel
theorem dX10_join_93 : decode cX10_join 93 = .ok (.getfield 9, 3) := by decide +kernel
theorem dX10_join_96 : decode cX10_join 96 = .ok (.iconst 1, 1) := by decide +kernel
theorem dX10_join_97 : decode cX10_join 97 = .ok (.iload_n 2, 1) := by decide +kernel
theorem dX10_join_98 : decode cX10_join 98 = .ok (.iadd, 1) := by decide +kernel
theorem dX10_join_99 : decode cX10_join 99 = .ok (.iload_n 1, 1) := by decide +kernel
theorem dX10_join_100 : decode cX10_join 100 = .ok (.iastore, 1) := by decide +kernel
theorem dX10_join_101 : decode cX10_join 101 = .ok (.aload_n 0, 1) := by decide +kernel
theorem dX10_join_102 : decode cX10_join 102 = .ok (.getfield 9, 3) := by decide +kernel
theorem dX10_join_105 : decode cX10_join 105 = .ok (.iconst 0, 1) := by decide +kernel
theorem dX10_join_106 : decode cX10_join 106 = .ok (.dup2, 1) := by decide +kernel
theorem dX10_join_107 : decode cX10_join 107 = .ok (.iaload, 1) := by decide +kernel
theorem dX10_join_108 : decode cX10_join 108 = .ok (.iconst 1, 1) := by decide +kernel
theorem dX10_join_109 : decode cX10_join 109 = .ok (.iadd, 1) := by decide +kernel
theorem dX10_join_110 : decode cX10_join 110 = .ok (.iastore, 1) := by decide +kernel
theorem dX10_join_111 : decode cX10_join 111 = .ok (.iload_n 2, 1) := by decide +kernel
theorem dX10_join_112 : decode cX10_join 112 = .ok (.iconst 1, 1) := by decide +kernel
theorem dX10_join_113 : decode cX10_join 113 = .ok (.iadd, 1) := by decide +kernel
theorem dX10_join_114 : decode cX10_join 114 = .ok (.ireturn, 1) := by decide +kernel
theorem dX10_without_0 : decode cX10_without 0 = .ok (.iload_n 0, 1) := by decide +kernel
theorem dX10_without_1 : decode cX10_without 1 = .ok (.iconst 1, 1) := by decide +kernel
theorem dX10_without_2 : decode cX10_without 2 = .ok (.iload_n 1, 1) := by decide +kernel
theorem dX10_without_3 : decode cX10_without 3 = .ok (.ishl, 1) := by decide +kernel
theorem dX10_without_4 : decode cX10_without 4 = .ok (.iconst 1, 1) := by decide +kernel
theorem dX10_without_5 : decode cX10_without 5 = .ok (.isub, 1) := by decide +kernel
theorem dX10_without_6 : decode cX10_without 6 = .ok (.iand, 1) := by decide +kernel
theorem dX10_without_7 : decode cX10_without 7 = .ok (.istore_n 2, 1) := by decide +kernel
theorem dX10_without_8 : decode cX10_without 8 = .ok (.iload_n 2, 1) := by decide +kernel
theorem dX10_without_9 : decode cX10_without 9 = .ok (.iload_n 0, 1) := by decide +kernel
theorem dX10_without_10 : decode cX10_without 10 = .ok (.iload_n 1, 1) := by decide +kernel
theorem dX10_without_11 : decode cX10_without 11 = .ok (.iconst 1, 1) := by decide +kernel
theorem dX10_without_12 : decode cX10_without 12 = .ok (.iadd, 1) := by decide +kernel
theorem dX10_without_13 : decode cX10_without 13 = .ok (.ishr, 1) := by decide +kernel
theorem dX10_without_14 : decode cX10_without 14 = .ok (.iload_n 1, 1) := by decide +kernel
theorem dX10_without_15 : decode cX10_without 15 = .ok (.ishl, 1) := by decide +kernel
theorem dX10_without_16 : decode cX10_without 16 = .ok (.ior, 1) := by decide +kernel
theorem dX10_without_17 : decode cX10_without 17 = .ok (.ireturn, 1) := by decide +kernel
theorem dX10_drop_0 : decode cX10_drop 0 = .ok (.aload_n 0, 1) := by decide +kernel
theorem dX10_drop_1 : decode cX10_drop 1 = .ok (.iconst 0, 1) := by decide +kernel
theorem dX10_drop_2 : decode cX10_drop 2 = .ok (.putfield 90, 3) := by decide +kernel
theorem dX10_drop_5 : decode cX10_drop 5 = .ok (.aload_n 0, 1) := by decide +kernel
theorem dX10_drop_6 : decode cX10_drop 6 = .ok (.iload_n 1, 1) := by decide +kernel
theorem dX10_drop_7 : decode cX10_drop 7 = .ok (.invokevirtual 170, 3) := by decide +kernel
theorem dX10_drop_10 : decode cX10_drop 10 = .ok (.ifCond .ne 6, 3) := by decide +kernel
theorem dX10_drop_13 : decode cX10_drop 13 = .ok (.bipush (-2), 2) := by decide +kernel
theorem dX10_drop_15 : decode cX10_drop 15 = .ok (.ireturn, 1) := by decide +kernel
theorem dX10_drop_16 : decode cX10_drop 16 = .ok (.aload_n 0, 1) := by decide +kernel
theorem dX10_drop_17 : decode cX10_drop 17 = .ok (.invokevirtual 193, 3) := by decide +kernel
theorem dX10_drop_20 : decode cX10_drop 20 = .ok (.iconst 1, 1) := by decide +kernel
theorem dX10_drop_21 : decode cX10_drop 21 = .ok (.if_icmp .ne 6, 3) := by decide +kernel
theorem dX10_drop_24 : decode cX10_drop 24 = .ok (.bipush (-3), 2) := by decide +kernel
theorem dX10_drop_26 : decode cX10_drop 26 = .ok (.ireturn, 1) := by decide +kernel
theorem dX10_drop_27 : decode cX10_drop 27 = .ok (.aload_n 0, 1) := by decide +kernel
theorem dX10_drop_28 : decode cX10_drop 28 = .ok (.invokevirtual 186, 3) := by decide +kernel
theorem dX10_drop_31 : decode cX10_drop 31 = .ok (.aload_n 0, 1) := by decide +kernel
theorem dX10_drop_32 : decode cX10_drop 32 = .ok (.invokevirtual 193, 3) := by decide +kernel
theorem dX10_drop_35 : decode cX10_drop 35 = .ok (.iconst 1, 1) := by decide +kernel
theorem dX10_drop_36 : decode cX10_drop 36 = .ok (.isub, 1) := by decide +kernel
theorem dX10_drop_37 : decode cX10_drop 37 = .ok (.istore_n 2, 1) := by decide +kernel
theorem dX10_drop_38 : decode cX10_drop 38 = .ok (.iload_n 1, 1) := by decide +kernel
theorem dX10_drop_39 : decode cX10_drop 39 = .ok (.istore_n 3, 1) := by decide +kernel
theorem dX10_drop_40 : decode cX10_drop 40 = .ok (.iload_n 3, 1) := by decide +kernel
theorem dX10_drop_41 : decode cX10_drop 41 = .ok (.iload_n 2, 1) := by decide +kernel
theorem dX10_drop_42 : decode cX10_drop 42 = .ok (.if_icmp .ge 27, 3) := by decide +kernel
theorem dX10_drop_45 : decode cX10_drop 45 = .ok (.aload_n 0, 1) := by decide +kernel
theorem dX10_drop_46 : decode cX10_drop 46 = .ok (.getfield 9, 3) := by decide +kernel
theorem dX10_drop_49 : decode cX10_drop 49 = .ok (.iconst 1, 1) := by decide +kernel
theorem dX10_drop_50 : decode cX10_drop 50 = .ok (.iload_n 3, 1) := by decide +kernel
theorem dX10_drop_51 : decode cX10_drop 51 = .ok (.iadd, 1) := by decide +kernel
theorem dX10_drop_52 : decode cX10_drop 52 = .ok (.aload_n 0, 1) := by decide +kernel
theorem dX10_drop_53 : decode cX10_drop 53 = .ok (.getfield 9, 3) := by decide +kernel
theorem dX10_drop_56 : decode cX10_drop 56 = .ok (.iconst 1, 1) := by decide +kernel
theorem dX10_drop_57 : decode cX10_drop 57 = .ok (.iload_n 3, 1) := by decide +kernel
theorem dX10_drop_58 : decode cX10_drop 58 = .ok (.iadd, 1) := by decide +kernel
theorem dX10_drop_59 : decode cX10_drop 59 = .ok (.iconst 1, 1) := by decide +kernel
theorem dX10_drop_60 : decode cX10_drop 60 = .ok (.iadd, 1) := by decide +kernel
theorem dX10_drop_61 : decode cX10_drop 61 = .ok (.iaload, 1) := by decide +kernel
theorem dX10_drop_62 : decode cX10_drop 62 = .ok (.iastore, 1) := by decide +kernel
theorem dX10_drop_63 : decode cX10_drop 63 = .ok (.iinc 3 1, 3) := by decide +kernel
theorem dX10_drop_66 : decode cX10_drop 66 = .ok (.goto (-26), 3) := by decide +kernel
theorem dX10_drop_69 : decode cX10_drop 69 = .ok (.aload_n 0, 1) := by decide +kernel
theorem dX10_drop_70 : decode cX10_drop 70 = .ok (.getfield 9, 3) := by decide +kernel
theorem dX10_drop_73 : decode cX10_drop 73 = .ok (.iconst 1, 1) := by decide +kernel
theorem dX10_drop_74 : decode cX10_drop 74 = .ok (.iload_n 2, 1) := by decide +kernel
theorem dX10_drop_75 : decode cX10_drop 75 = .ok (.iadd, 1) := by decide +kernel
theorem dX10_drop_76 : decode cX10_drop 76 = .ok (.iconst 0, 1) := by decide +kernel
theorem dX10_drop_77 : decode cX10_drop 77 = .ok (.iastore, 1) := by decide +kernel
theorem dX10_drop_78 : decode cX10_drop 78 = .ok (.iconst 0, 1) := by decide +kernel
theorem dX10_drop_79 : decode cX10_drop 79 = .ok (.istore_n 3, 1) := by decide +kernel
theorem dX10_drop_80 : decode cX10_drop 80 = .ok (.iload_n 3, 1) := by decide +kernel
theorem dX10_drop_81 : decode cX10_drop 81 = .ok (.iload_n 2, 1) := by decide +kernel
theorem dX10_drop_82 : decode cX10_drop 82 = .ok (.if_icmp .ge 29, 3) := by decide +kernel
theorem dX10_drop_85 : decode cX10_drop 85 = .ok (.aload_n 0, 1) := by decide +kernel
theorem dX10_drop_86 : decode cX10_drop 86 = .ok (.getfield 9, 3) := by decide +kernel
theorem dX10_drop_89 : decode cX10_drop 89 = .ok (.iconst 1, 1) := by decide +kernel
theorem dX10_drop_90 : decode cX10_drop 90 = .ok (.iload_n 3, 1) := by decide +kernel
theorem dX10_drop_91 : decode cX10_drop 91 = .ok (.iadd, 1) := by decide +kernel
theorem dX10_drop_92 : decode cX10_drop 92 = .ok (.aload_n 0, 1) := by decide +kernel
theorem dX10_drop_93 : decode cX10_drop 93 = .ok (.getfield 9, 3) := by decide +kernel
theorem dX10_drop_96 : decode cX10_drop 96 = .ok (.iconst 1, 1) := by decide +kernel
theorem dX10_drop_97 : decode cX10_drop 97 = .ok (.iload_n 3, 1) := by decide +kernel
theorem dX10_drop_98 : decode cX10_drop 98 = .ok (.iadd, 1) := by decide +kernel
theorem dX10_drop_99 : decode cX10_drop 99 = .ok (.iaload, 1) := by decide +kernel
theorem dX10_drop_100 : decode cX10_drop 100 = .ok (.iload_n 1, 1) := by decide +kernel
theorem dX10_drop_101 : decode cX10_drop 101 = .ok (.invokestatic 196, 3) := by decide +kernel
theorem dX10_drop_104 : decode cX10_drop 104 = .ok (.iastore, 1) := by decide +kernel
theorem dX10_drop_105 : decode cX10_drop 105 = .ok (.iinc 3 1, 3) := by decide +kernel
theorem dX10_drop_108 : decode cX10_drop 108 = .ok (.goto (-28), 3) := by decide +kernel
theorem dX10_drop_111 : decode cX10_drop 111 = .ok (.aload_n 0, 1) := by decide +kernel
theorem dX10_drop_112 : decode cX10_drop 112 = .ok (.getfield 9, 3) := by decide +kernel
theorem dX10_drop_115 : decode cX10_drop 115 = .ok (.iconst 0, 1) := by decide +kernel
theorem dX10_drop_116 : decode cX10_drop 116 = .ok (.iload_n 2, 1) := by decide +kernel
theorem dX10_drop_117 : decode cX10_drop 117 = .ok (.iastore, 1) := by decide +kernel
theorem dX10_drop_118 : decode cX10_drop 118 = .ok (.iload_n 2, 1) := by decide +kernel
theorem dX10_drop_119 : decode cX10_drop 119 = .ok (.ireturn, 1) := by decide +kernel
theorem dX10_top_0 : decode cX10_top 0 = .ok (.iload_n 1, 1) := by decide +kernel
theorem dX10_top_1 : decode cX10_top 1 = .ok (.istore_n 2, 1) := by decide +kernel
theorem dX10_top_2 : decode cX10_top 2 = .ok (.iconst 1, 1) := by decide +kernel
theorem dX10_top_3 : decode cX10_top 3 = .ok (.istore_n 3, 1) := by decide +kernel
theorem dX10_top_4 : decode cX10_top 4 = .ok (.iload_n 3, 1) := by decide +kernel
theorem dX10_top_5 : decode cX10_top 5 = .ok (.sipush 256, 3) := by decide +kernel
theorem dX10_top_8 : decode cX10_top 8 = .ok (.if_icmp .ge 102, 3) := by decide +kernel
theorem dX10_top_11 : decode cX10_top 11 = .ok (.iload_n 3, 1) := by decide +kernel
theorem dX10_top_12 : decode cX10_top 12 = .ok (.iload_n 1, 1) := by decide +kernel
theorem dX10_top_13 : decode cX10_top 13 = .ok (.invokestatic 105, 3) := by decide +kernel
theorem dX10_top_16 : decode cX10_top 16 = .ok (.ifCond .eq 18, 3) := by decide +kernel
theorem dX10_top_19 : decode cX10_top 19 = .ok (.iload_n 3, 1) := by decide +kernel
theorem dX10_top_20 : decode cX10_top 20 = .ok (.invokestatic 200, 3) := by decide +kernel
theorem dX10_top_23 : decode cX10_top 23 = .ok (.iload_n 2, 1) := by decide +kernel
theorem dX10_top_24 : decode cX10_top 24 = .ok (.invokestatic 200, 3) := by decide +kernel
theorem dX10_top_27 : decode cX10_top 27 = .ok (.if_icmp .ge 7, 3) := by decide +kernel
theorem dX10_top_30 : decode cX10_top 30 = .ok (.iconst 1, 1) := by decide +kernel
theorem dX10_top_31 : decode cX10_top 31 = .ok (.goto 4, 3) := by decide +kernel
theorem dX10_top_34 : decode cX10_top 34 = .ok (.iconst 0, 1) := by decide +kernel
theorem dX10_top_35 : decode cX10_top 35 = .ok (.istore 4, 2) := by decide +kernel
theorem dX10_top_37 : decode cX10_top 37 = .ok (.iconst 0, 1) := by decide +kernel
theorem dX10_top_38 : decode cX10_top 38 = .ok (.istore 5, 2) := by decide +kernel
theorem dX10_top_40 : decode cX10_top 40 = .ok (.iload 5, 2) := by decide +kernel
theorem dX10_top_42 : decode cX10_top 42 = .ok (.aload_n 0, 1) := by decide +kernel
theorem dX10_top_43 : decode cX10_top 43 = .ok (.invokevirtual 193, 3) := by decide +kernel
theorem dX10_top_46 : decode cX10_top 46 = .ok (.if_icmp .ge 47, 3) := by decide +kernel
theorem dX10_top_49 : decode cX10_top 49 = .ok (.iload 4, 2) := by decide +kernel
theorem dX10_top_51 : decode cX10_top 51 = .ok (.ifCond .eq 42, 3) := by decide +kernel
theorem dX10_top_54 : decode cX10_top 54 = .ok (.iload_n 3, 1) := by decide +kernel
theorem dX10_top_55 : decode cX10_top 55 = .ok (.iload 5, 2) := by decide +kernel
theorem dX10_top_57 : decode cX10_top 57 = .ok (.invokestatic 146, 3) := by decide +kernel
theorem dX10_top_60 : decode cX10_top 60 = .ok (.ifCond .eq 20, 3) := by decide +kernel
theorem dX10_top_63 : decode cX10_top 63 = .ok (.iload_n 1, 1) := by decide +kernel
theorem dX10_top_64 : decode cX10_top 64 = .ok (.iload_n 3, 1) := by decide +kernel
theorem dX10_top_65 : decode cX10_top 65 = .ok (.iconst (-1), 1) := by decide +kernel
theorem dX10_top_66 : decode cX10_top 66 = .ok (.ixor, 1) := by decide +kernel
theorem dX10_top_67 : decode cX10_top 67 = .ok (.iand, 1) := by decide +kernel
theorem dX10_top_68 : decode cX10_top 68 = .ok (.aload_n 0, 1) := by decide +kernel
theorem dX10_top_69 : decode cX10_top 69 = .ok (.iload 5, 2) := by decide +kernel
theorem dX10_top_71 : decode cX10_top 71 = .ok (.invokevirtual 166, 3) := by decide +kernel
theorem dX10_top_74 : decode cX10_top 74 = .ok (.invokestatic 105, 3) := by decide +kernel
theorem dX10_top_77 : decode cX10_top 77 = .ok (.ifCond .eq 7, 3) := by decide +kernel
theorem dX10_top_80 : decode cX10_top 80 = .ok (.iconst 1, 1) := by decide +kernel
theorem dX10_top_81 : decode cX10_top 81 = .ok (.goto 4, 3) := by decide +kernel
theorem dX10_top_84 : decode cX10_top 84 = .ok (.iconst 0, 1) := by decide +kernel
theorem dX10_top_85 : decode cX10_top 85 = .ok (.istore 4, 2) := by decide +kernel
theorem dX10_top_87 : decode cX10_top 87 = .ok (.iinc 5 1, 3) := by decide +kernel
theorem dX10_top_90 : decode cX10_top 90 = .ok (.goto (-50), 3) := by decide +kernel
theorem dX10_top_93 : decode cX10_top 93 = .ok (.iload 4, 2) := by decide +kernel
theorem dX10_top_95 : decode cX10_top 95 = .ok (.ifCond .eq 7, 3) := by decide +kernel
theorem dX10_top_98 : decode cX10_top 98 = .ok (.iload_n 3, 1) := by decide +kernel
theorem dX10_top_99 : decode cX10_top 99 = .ok (.goto 4, 3) := by decide +kernel
theorem dX10_top_102 : decode cX10_top 102 = .ok (.iload_n 2, 1) := by decide +kernel
theorem dX10_top_103 : decode cX10_top 103 = .ok (.istore_n 2, 1) := by decide +kernel
theorem dX10_top_104 : decode cX10_top 104 = .ok (.iinc 3 1, 3) := by decide +kernel
theorem dX10_top_107 : decode cX10_top 107 = .ok (.goto (-103), 3) := by decide +kernel
theorem dX10_top_110 : decode cX10_top 110 = .ok (.iload_n 2, 1) := by decide +kernel
theorem dX10_top_111 : decode cX10_top 111 = .ok (.ireturn, 1) := by decide +kernel
theorem dX10_winsOf_0 : decode cX10_winsOf 0 = .ok (.aload_n 0, 1) := by decide +kernel
theorem dX10_winsOf_1 : decode cX10_winsOf 1 = .ok (.iload_n 1, 1) := by decide +kernel
theorem dX10_winsOf_2 : decode cX10_winsOf 2 = .ok (.invokevirtual 166, 3) := by decide +kernel
theorem dX10_winsOf_5 : decode cX10_winsOf 5 = .ok (.iload_n 2, 1) := by decide +kernel
theorem dX10_winsOf_6 : decode cX10_winsOf 6 = .ok (.iand, 1) := by decide +kernel
theorem dX10_winsOf_7 : decode cX10_winsOf 7 = .ok (.invokestatic 200, 3) := by decide +kernel
theorem dX10_winsOf_10 : decode cX10_winsOf 10 = .ok (.ireturn, 1) := by decide +kernel
theorem dX10_most_0 : decode cX10_most 0 = .ok (.iconst 0, 1) := by decide +kernel
theorem dX10_most_1 : decode cX10_most 1 = .ok (.istore_n 2, 1) := by decide +kernel
theorem dX10_most_2 : decode cX10_most 2 = .ok (.iconst (-1), 1) := by decide +kernel
theorem dX10_most_3 : decode cX10_most 3 = .ok (.istore_n 3, 1) := by decide +kernel
theorem dX10_most_4 : decode cX10_most 4 = .ok (.iconst 0, 1) := by decide +kernel
theorem dX10_most_5 : decode cX10_most 5 = .ok (.istore 4, 2) := by decide +kernel
theorem dX10_most_7 : decode cX10_most 7 = .ok (.iload 4, 2) := by decide +kernel
theorem dX10_most_9 : decode cX10_most 9 = .ok (.aload_n 0, 1) := by decide +kernel
theorem dX10_most_10 : decode cX10_most 10 = .ok (.invokevirtual 193, 3) := by decide +kernel
theorem dX10_most_13 : decode cX10_most 13 = .ok (.if_icmp .ge 62, 3) := by decide +kernel
theorem dX10_most_16 : decode cX10_most 16 = .ok (.iload_n 1, 1) := by decide +kernel
theorem dX10_most_17 : decode cX10_most 17 = .ok (.iload 4, 2) := by decide +kernel
theorem dX10_most_19 : decode cX10_most 19 = .ok (.invokestatic 146, 3) := by decide +kernel
theorem dX10_most_22 : decode cX10_most 22 = .ok (.ifCond .eq 47, 3) := by decide +kernel
theorem dX10_most_25 : decode cX10_most 25 = .ok (.aload_n 0, 1) := by decide +kernel
theorem dX10_most_26 : decode cX10_most 26 = .ok (.iload 4, 2) := by decide +kernel
theorem dX10_most_28 : decode cX10_most 28 = .ok (.iload_n 1, 1) := by decide +kernel
theorem dX10_most_29 : decode cX10_most 29 = .ok (.invokevirtual 203, 3) := by decide +kernel
theorem dX10_most_32 : decode cX10_most 32 = .ok (.iload_n 3, 1) := by decide +kernel
theorem dX10_most_33 : decode cX10_most 33 = .ok (.if_icmp .lt 36, 3) := by decide +kernel
theorem dX10_most_36 : decode cX10_most 36 = .ok (.aload_n 0, 1) := by decide +kernel
theorem dX10_most_37 : decode cX10_most 37 = .ok (.iload 4, 2) := by decide +kernel
theorem dX10_most_39 : decode cX10_most 39 = .ok (.iload_n 1, 1) := by decide +kernel
theorem dX10_most_40 : decode cX10_most 40 = .ok (.invokevirtual 203, 3) := by decide +kernel
theorem dX10_most_43 : decode cX10_most 43 = .ok (.iload_n 3, 1) := by decide +kernel
theorem dX10_most_44 : decode cX10_most 44 = .ok (.if_icmp .le 10, 3) := by decide +kernel
theorem dX10_most_47 : decode cX10_most 47 = .ok (.iconst 1, 1) := by decide +kernel
theorem dX10_most_48 : decode cX10_most 48 = .ok (.iload 4, 2) := by decide +kernel
theorem dX10_most_50 : decode cX10_most 50 = .ok (.ishl, 1) := by decide +kernel
theorem dX10_most_51 : decode cX10_most 51 = .ok (.goto 9, 3) := by decide +kernel
theorem dX10_most_54 : decode cX10_most 54 = .ok (.iload_n 2, 1) := by decide +kernel
theorem dX10_most_55 : decode cX10_most 55 = .ok (.iconst 1, 1) := by decide +kernel
theorem dX10_most_56 : decode cX10_most 56 = .ok (.iload 4, 2) := by decide +kernel
theorem dX10_most_58 : decode cX10_most 58 = .ok (.ishl, 1) := by decide +kernel
theorem dX10_most_59 : decode cX10_most 59 = .ok (.ior, 1) := by decide +kernel
theorem dX10_most_60 : decode cX10_most 60 = .ok (.istore_n 2, 1) := by decide +kernel
theorem dX10_most_61 : decode cX10_most 61 = .ok (.aload_n 0, 1) := by decide +kernel
theorem dX10_most_62 : decode cX10_most 62 = .ok (.iload 4, 2) := by decide +kernel
theorem dX10_most_64 : decode cX10_most 64 = .ok (.iload_n 1, 1) := by decide +kernel
theorem dX10_most_65 : decode cX10_most 65 = .ok (.invokevirtual 203, 3) := by decide +kernel
theorem dX10_most_68 : decode cX10_most 68 = .ok (.istore_n 3, 1) := by decide +kernel
theorem dX10_most_69 : decode cX10_most 69 = .ok (.iinc 4 1, 3) := by decide +kernel
theorem dX10_most_72 : decode cX10_most 72 = .ok (.goto (-65), 3) := by decide +kernel
theorem dX10_most_75 : decode cX10_most 75 = .ok (.iload_n 2, 1) := by decide +kernel
theorem dX10_most_76 : decode cX10_most 76 = .ok (.ireturn, 1) := by decide +kernel
theorem dX10_uncovered_0 : decode cX10_uncovered 0 = .ok (.iload_n 1, 1) := by decide +kernel
theorem dX10_uncovered_1 : decode cX10_uncovered 1 = .ok (.istore_n 2, 1) := by decide +kernel
theorem dX10_uncovered_2 : decode cX10_uncovered 2 = .ok (.iconst 0, 1) := by decide +kernel
theorem dX10_uncovered_3 : decode cX10_uncovered 3 = .ok (.istore_n 3, 1) := by decide +kernel
theorem dX10_uncovered_4 : decode cX10_uncovered 4 = .ok (.iload_n 3, 1) := by decide +kernel
theorem dX10_uncovered_5 : decode cX10_uncovered 5 = .ok (.aload_n 0, 1) := by decide +kernel
theorem dX10_uncovered_6 : decode cX10_uncovered 6 = .ok (.invokevirtual 193, 3) := by decide +kernel
theorem dX10_uncovered_9 : decode cX10_uncovered 9 = .ok (.if_icmp .ge 74, 3) := by decide +kernel
theorem dX10_uncovered_12 : decode cX10_uncovered 12 = .ok (.iconst 0, 1) := by decide +kernel
theorem dX10_uncovered_13 : decode cX10_uncovered 13 = .ok (.istore 4, 2) := by decide +kernel
theorem dX10_uncovered_15 : decode cX10_uncovered 15 = .ok (.iload 4, 2) := by decide +kernel
theorem dX10_uncovered_17 : decode cX10_uncovered 17 = .ok (.aload_n 0, 1) := by decide +kernel
theorem dX10_uncovered_18 : decode cX10_uncovered 18 = .ok (.invokevirtual 193, 3) := by decide +kernel
theorem dX10_uncovered_21 : decode cX10_uncovered 21 = .ok (.if_icmp .ge 56, 3) := by decide +kernel
theorem dX10_uncovered_24 : decode cX10_uncovered 24 = .ok (.iload_n 2, 1) := by decide +kernel
theorem dX10_uncovered_25 : decode cX10_uncovered 25 = .ok (.iload_n 1, 1) := by decide +kernel
theorem dX10_uncovered_26 : decode cX10_uncovered 26 = .ok (.iload_n 3, 1) := by decide +kernel
theorem dX10_uncovered_27 : decode cX10_uncovered 27 = .ok (.invokestatic 146, 3) := by decide +kernel
theorem dX10_uncovered_30 : decode cX10_uncovered 30 = .ok (.ifCond .eq 38, 3) := by decide +kernel
theorem dX10_uncovered_33 : decode cX10_uncovered 33 = .ok (.iload_n 1, 1) := by decide +kernel
theorem dX10_uncovered_34 : decode cX10_uncovered 34 = .ok (.iload 4, 2) := by decide +kernel
theorem dX10_uncovered_36 : decode cX10_uncovered 36 = .ok (.invokestatic 146, 3) := by decide +kernel
theorem dX10_uncovered_39 : decode cX10_uncovered 39 = .ok (.ifCond .eq 29, 3) := by decide +kernel
theorem dX10_uncovered_42 : decode cX10_uncovered 42 = .ok (.iload_n 3, 1) := by decide +kernel
theorem dX10_uncovered_43 : decode cX10_uncovered 43 = .ok (.iload 4, 2) := by decide +kernel
theorem dX10_uncovered_45 : decode cX10_uncovered 45 = .ok (.if_icmp .eq 23, 3) := by decide +kernel
theorem dX10_uncovered_48 : decode cX10_uncovered 48 = .ok (.aload_n 0, 1) := by decide +kernel
theorem dX10_uncovered_49 : decode cX10_uncovered 49 = .ok (.iload_n 3, 1) := by decide +kernel
theorem dX10_uncovered_50 : decode cX10_uncovered 50 = .ok (.iload 4, 2) := by decide +kernel
theorem dX10_uncovered_52 : decode cX10_uncovered 52 = .ok (.iload_n 1, 1) := by decide +kernel
theorem dX10_uncovered_53 : decode cX10_uncovered 53 = .ok (.invokevirtual 173, 3) := by decide +kernel
theorem dX10_uncovered_56 : decode cX10_uncovered 56 = .ok (.ifCond .eq 12, 3) := by decide +kernel
theorem dX10_uncovered_59 : decode cX10_uncovered 59 = .ok (.iconst 1, 1) := by decide +kernel
theorem dX10_uncovered_60 : decode cX10_uncovered 60 = .ok (.iload 4, 2) := by decide +kernel
theorem dX10_uncovered_62 : decode cX10_uncovered 62 = .ok (.ishl, 1) := by decide +kernel
theorem dX10_uncovered_63 : decode cX10_uncovered 63 = .ok (.iconst (-1), 1) := by decide +kernel
theorem dX10_uncovered_64 : decode cX10_uncovered 64 = .ok (.ixor, 1) := by decide +kernel
theorem dX10_uncovered_65 : decode cX10_uncovered 65 = .ok (.goto 4, 3) := by decide +kernel
theorem dX10_uncovered_68 : decode cX10_uncovered 68 = .ok (.iconst (-1), 1) := by decide +kernel
theorem dX10_uncovered_69 : decode cX10_uncovered 69 = .ok (.iand, 1) := by decide +kernel
theorem dX10_uncovered_70 : decode cX10_uncovered 70 = .ok (.istore_n 2, 1) := by decide +kernel
theorem dX10_uncovered_71 : decode cX10_uncovered 71 = .ok (.iinc 4 1, 3) := by decide +kernel
theorem dX10_uncovered_74 : decode cX10_uncovered 74 = .ok (.goto (-59), 3) := by decide +kernel
theorem dX10_uncovered_77 : decode cX10_uncovered 77 = .ok (.iinc 3 1, 3) := by decide +kernel
theorem dX10_uncovered_80 : decode cX10_uncovered 80 = .ok (.goto (-76), 3) := by decide +kernel
theorem dX10_uncovered_83 : decode cX10_uncovered 83 = .ok (.iload_n 2, 1) := by decide +kernel
theorem dX10_uncovered_84 : decode cX10_uncovered 84 = .ok (.ireturn, 1) := by decide +kernel
theorem dX10_againUncovered_0 : decode cX10_againUncovered 0 = .ok (.iload_n 1, 1) := by decide +kernel
theorem dX10_againUncovered_1 : decode cX10_againUncovered 1 = .ok (.istore_n 2, 1) := by decide +kernel
theorem dX10_againUncovered_2 : decode cX10_againUncovered 2 = .ok (.aload_n 0, 1) := by decide +kernel
theorem dX10_againUncovered_3 : decode cX10_againUncovered 3 = .ok (.iload_n 2, 1) := by decide +kernel
theorem dX10_againUncovered_4 : decode cX10_againUncovered 4 = .ok (.invokevirtual 206, 3) := by decide +kernel
theorem dX10_againUncovered_7 : decode cX10_againUncovered 7 = .ok (.istore_n 3, 1) := by decide +kernel
theorem dX10_againUncovered_8 : decode cX10_againUncovered 8 = .ok (.iload_n 3, 1) := by decide +kernel
theorem dX10_againUncovered_9 : decode cX10_againUncovered 9 = .ok (.iload_n 2, 1) := by decide +kernel
theorem dX10_againUncovered_10 : decode cX10_againUncovered 10 = .ok (.if_icmp .eq 14, 3) := by decide +kernel
theorem dX10_againUncovered_13 : decode cX10_againUncovered 13 = .ok (.iload_n 3, 1) := by decide +kernel
theorem dX10_againUncovered_14 : decode cX10_againUncovered 14 = .ok (.istore_n 2, 1) := by decide +kernel
theorem dX10_againUncovered_15 : decode cX10_againUncovered 15 = .ok (.aload_n 0, 1) := by decide +kernel
theorem dX10_againUncovered_16 : decode cX10_againUncovered 16 = .ok (.iload_n 2, 1) := by decide +kernel
theorem dX10_againUncovered_17 : decode cX10_againUncovered 17 = .ok (.invokevirtual 206, 3) := by decide +kernel
theorem dX10_againUncovered_20 : decode cX10_againUncovered 20 = .ok (.istore_n 3, 1) := by decide +kernel
theorem dX10_againUncovered_21 : decode cX10_againUncovered 21 = .ok (.goto (-13), 3) := by decide +kernel
theorem dX10_againUncovered_24 : decode cX10_againUncovered 24 = .ok (.iload_n 2, 1) := by decide +kernel
theorem dX10_againUncovered_25 : decode cX10_againUncovered 25 = .ok (.ireturn, 1) := by decide +kernel
theorem dX10_hasChain_0 : decode cX10_hasChain 0 = .ok (.aload_n 0, 1) := by decide +kernel
theorem dX10_hasChain_1 : decode cX10_hasChain 1 = .ok (.iconst 1, 1) := by decide +kernel
theorem dX10_hasChain_2 : decode cX10_hasChain 2 = .ok (.putfield 209, 3) := by decide +kernel
theorem dX10_hasChain_5 : decode cX10_hasChain 5 = .ok (.aload_n 0, 1) := by decide +kernel
theorem dX10_hasChain_6 : decode cX10_hasChain 6 = .ok (.getfield 35, 3) := by decide +kernel
theorem dX10_hasChain_9 : decode cX10_hasChain 9 = .ok (.iconst 0, 1) := by decide +kernel
theorem dX10_hasChain_10 : decode cX10_hasChain 10 = .ok (.iload_n 1, 1) := by decide +kernel
theorem dX10_hasChain_11 : decode cX10_hasChain 11 = .ok (.iastore, 1) := by decide +kernel
theorem dX10_hasChain_12 : decode cX10_hasChain 12 = .ok (.aload_n 0, 1) := by decide +kernel
theorem dX10_hasChain_13 : decode cX10_hasChain 13 = .ok (.getfield 38, 3) := by decide +kernel
theorem dX10_hasChain_16 : decode cX10_hasChain 16 = .ok (.iconst 0, 1) := by decide +kernel
theorem dX10_hasChain_17 : decode cX10_hasChain 17 = .ok (.aload_n 0, 1) := by decide +kernel
theorem dX10_hasChain_18 : decode cX10_hasChain 18 = .ok (.iload_n 1, 1) := by decide +kernel
theorem dX10_hasChain_19 : decode cX10_hasChain 19 = .ok (.invokevirtual 166, 3) := by decide +kernel
theorem dX10_hasChain_22 : decode cX10_hasChain 22 = .ok (.iload_n 2, 1) := by decide +kernel
theorem dX10_hasChain_23 : decode cX10_hasChain 23 = .ok (.iand, 1) := by decide +kernel
theorem dX10_hasChain_24 : decode cX10_hasChain 24 = .ok (.iastore, 1) := by decide +kernel
theorem dX10_hasChain_25 : decode cX10_hasChain 25 = .ok (.aload_n 0, 1) := by decide +kernel
theorem dX10_hasChain_26 : decode cX10_hasChain 26 = .ok (.getfield 44, 3) := by decide +kernel
theorem dX10_hasChain_29 : decode cX10_hasChain 29 = .ok (.iconst 0, 1) := by decide +kernel
theorem dX10_hasChain_30 : decode cX10_hasChain 30 = .ok (.aload_n 0, 1) := by decide +kernel
theorem dX10_hasChain_31 : decode cX10_hasChain 31 = .ok (.getfield 38, 3) := by decide +kernel
theorem dX10_hasChain_34 : decode cX10_hasChain 34 = .ok (.iconst 0, 1) := by decide +kernel
theorem dX10_hasChain_35 : decode cX10_hasChain 35 = .ok (.iaload, 1) := by decide +kernel
theorem dX10_hasChain_36 : decode cX10_hasChain 36 = .ok (.iastore, 1) := by decide +kernel
theorem dX10_hasChain_37 : decode cX10_hasChain 37 = .ok (.aload_n 0, 1) := by decide +kernel
theorem dX10_hasChain_38 : decode cX10_hasChain 38 = .ok (.getfield 41, 3) := by decide +kernel
theorem dX10_hasChain_41 : decode cX10_hasChain 41 = .ok (.iconst 0, 1) := by decide +kernel
theorem dX10_hasChain_42 : decode cX10_hasChain 42 = .ok (.aload_n 0, 1) := by decide +kernel
theorem dX10_hasChain_43 : decode cX10_hasChain 43 = .ok (.iload_n 1, 1) := by decide +kernel
theorem dX10_hasChain_44 : decode cX10_hasChain 44 = .ok (.invokevirtual 177, 3) := by decide +kernel
theorem dX10_hasChain_47 : decode cX10_hasChain 47 = .ok (.iload_n 2, 1) := by decide +kernel
theorem dX10_hasChain_48 : decode cX10_hasChain 48 = .ok (.iand, 1) := by decide +kernel
theorem dX10_hasChain_49 : decode cX10_hasChain 49 = .ok (.iastore, 1) := by decide +kernel
theorem dX10_hasChain_50 : decode cX10_hasChain 50 = .ok (.aload_n 0, 1) := by decide +kernel
theorem dX10_hasChain_51 : decode cX10_hasChain 51 = .ok (.getfield 209, 3) := by decide +kernel
theorem dX10_hasChain_54 : decode cX10_hasChain 54 = .ok (.ifCond .le 162, 3) := by decide +kernel
theorem dX10_hasChain_57 : decode cX10_hasChain 57 = .ok (.aload_n 0, 1) := by decide +kernel
theorem dX10_hasChain_58 : decode cX10_hasChain 58 = .ok (.getfield 41, 3) := by decide +kernel
theorem dX10_hasChain_61 : decode cX10_hasChain 61 = .ok (.aload_n 0, 1) := by decide +kernel
theorem dX10_hasChain_62 : decode cX10_hasChain 62 = .ok (.getfield 209, 3) := by decide +kernel
theorem dX10_hasChain_65 : decode cX10_hasChain 65 = .ok (.iconst 1, 1) := by decide +kernel
theorem dX10_hasChain_66 : decode cX10_hasChain 66 = .ok (.isub, 1) := by decide +kernel
theorem dX10_hasChain_67 : decode cX10_hasChain 67 = .ok (.iaload, 1) := by decide +kernel
theorem dX10_hasChain_68 : decode cX10_hasChain 68 = .ok (.ifCond .eq 148, 3) := by decide +kernel
theorem dX10_hasChain_71 : decode cX10_hasChain 71 = .ok (.aload_n 0, 1) := by decide +kernel
theorem dX10_hasChain_72 : decode cX10_hasChain 72 = .ok (.getfield 38, 3) := by decide +kernel
theorem dX10_hasChain_75 : decode cX10_hasChain 75 = .ok (.aload_n 0, 1) := by decide +kernel
theorem dX10_hasChain_76 : decode cX10_hasChain 76 = .ok (.getfield 209, 3) := by decide +kernel
theorem dX10_hasChain_79 : decode cX10_hasChain 79 = .ok (.iconst 1, 1) := by decide +kernel
theorem dX10_hasChain_80 : decode cX10_hasChain 80 = .ok (.isub, 1) := by decide +kernel
theorem dX10_hasChain_81 : decode cX10_hasChain 81 = .ok (.iaload, 1) := by decide +kernel
theorem dX10_hasChain_82 : decode cX10_hasChain 82 = .ok (.invokestatic 180, 3) := by decide +kernel
theorem dX10_hasChain_85 : decode cX10_hasChain 85 = .ok (.istore_n 3, 1) := by decide +kernel
theorem dX10_hasChain_86 : decode cX10_hasChain 86 = .ok (.iload_n 3, 1) := by decide +kernel
theorem dX10_hasChain_87 : decode cX10_hasChain 87 = .ok (.iconst (-1), 1) := by decide +kernel
theorem dX10_hasChain_88 : decode cX10_hasChain 88 = .ok (.if_icmp .ne 16, 3) := by decide +kernel
theorem dX10_hasChain_91 : decode cX10_hasChain 91 = .ok (.aload_n 0, 1) := by decide +kernel
theorem dX10_hasChain_92 : decode cX10_hasChain 92 = .ok (.dup, 1) := by decide +kernel
theorem dX10_hasChain_93 : decode cX10_hasChain 93 = .ok (.getfield 209, 3) := by decide +kernel
theorem dX10_hasChain_96 : decode cX10_hasChain 96 = .ok (.iconst 1, 1) := by decide +kernel
theorem dX10_hasChain_97 : decode cX10_hasChain 97 = .ok (.isub, 1) := by decide +kernel
theorem dX10_hasChain_98 : decode cX10_hasChain 98 = .ok (.putfield 209, 3) := by decide +kernel
theorem dX10_hasChain_101 : decode cX10_hasChain 101 = .ok (.goto 112, 3) := by decide +kernel
theorem dX10_hasChain_104 : decode cX10_hasChain 104 = .ok (.aload_n 0, 1) := by decide +kernel
theorem dX10_hasChain_105 : decode cX10_hasChain 105 = .ok (.getfield 38, 3) := by decide +kernel
theorem dX10_hasChain_108 : decode cX10_hasChain 108 = .ok (.aload_n 0, 1) := by decide +kernel
theorem dX10_hasChain_109 : decode cX10_hasChain 109 = .ok (.getfield 209, 3) := by decide +kernel
theorem dX10_hasChain_112 : decode cX10_hasChain 112 = .ok (.iconst 1, 1) := by decide +kernel
theorem dX10_hasChain_113 : decode cX10_hasChain 113 = .ok (.isub, 1) := by decide +kernel
theorem dX10_hasChain_114 : decode cX10_hasChain 114 = .ok (.dup2, 1) := by decide +kernel
theorem dX10_hasChain_115 : decode cX10_hasChain 115 = .ok (.iaload, 1) := by decide +kernel
theorem dX10_hasChain_116 : decode cX10_hasChain 116 = .ok (.iconst 1, 1) := by decide +kernel
theorem dX10_hasChain_117 : decode cX10_hasChain 117 = .ok (.iload_n 3, 1) := by decide +kernel
theorem dX10_hasChain_118 : decode cX10_hasChain 118 = .ok (.ishl, 1) := by decide +kernel
theorem dX10_hasChain_119 : decode cX10_hasChain 119 = .ok (.iconst (-1), 1) := by decide +kernel
theorem dX10_hasChain_120 : decode cX10_hasChain 120 = .ok (.ixor, 1) := by decide +kernel
theorem dX10_hasChain_121 : decode cX10_hasChain 121 = .ok (.iand, 1) := by decide +kernel
theorem dX10_hasChain_122 : decode cX10_hasChain 122 = .ok (.iastore, 1) := by decide +kernel
theorem dX10_hasChain_123 : decode cX10_hasChain 123 = .ok (.aload_n 0, 1) := by decide +kernel
theorem dX10_hasChain_124 : decode cX10_hasChain 124 = .ok (.getfield 35, 3) := by decide +kernel
theorem dX10_hasChain_127 : decode cX10_hasChain 127 = .ok (.aload_n 0, 1) := by decide +kernel
theorem dX10_hasChain_128 : decode cX10_hasChain 128 = .ok (.getfield 209, 3) := by decide +kernel
theorem dX10_hasChain_131 : decode cX10_hasChain 131 = .ok (.iload_n 3, 1) := by decide +kernel
theorem dX10_hasChain_132 : decode cX10_hasChain 132 = .ok (.iastore, 1) := by decide +kernel
theorem dX10_hasChain_133 : decode cX10_hasChain 133 = .ok (.aload_n 0, 1) := by decide +kernel
theorem dX10_hasChain_134 : decode cX10_hasChain 134 = .ok (.getfield 44, 3) := by decide +kernel
theorem dX10_hasChain_137 : decode cX10_hasChain 137 = .ok (.aload_n 0, 1) := by decide +kernel
theorem dX10_hasChain_138 : decode cX10_hasChain 138 = .ok (.getfield 209, 3) := by decide +kernel
theorem dX10_hasChain_141 : decode cX10_hasChain 141 = .ok (.aload_n 0, 1) := by decide +kernel
theorem dX10_hasChain_142 : decode cX10_hasChain 142 = .ok (.getfield 44, 3) := by decide +kernel
theorem dX10_hasChain_145 : decode cX10_hasChain 145 = .ok (.aload_n 0, 1) := by decide +kernel
theorem dX10_hasChain_146 : decode cX10_hasChain 146 = .ok (.getfield 209, 3) := by decide +kernel
theorem dX10_hasChain_149 : decode cX10_hasChain 149 = .ok (.iconst 1, 1) := by decide +kernel
theorem dX10_hasChain_150 : decode cX10_hasChain 150 = .ok (.isub, 1) := by decide +kernel
theorem dX10_hasChain_151 : decode cX10_hasChain 151 = .ok (.iaload, 1) := by decide +kernel
theorem dX10_hasChain_152 : decode cX10_hasChain 152 = .ok (.aload_n 0, 1) := by decide +kernel
theorem dX10_hasChain_153 : decode cX10_hasChain 153 = .ok (.iload_n 3, 1) := by decide +kernel
theorem dX10_hasChain_154 : decode cX10_hasChain 154 = .ok (.invokevirtual 166, 3) := by decide +kernel
theorem dX10_hasChain_157 : decode cX10_hasChain 157 = .ok (.iand, 1) := by decide +kernel
theorem dX10_hasChain_158 : decode cX10_hasChain 158 = .ok (.iastore, 1) := by decide +kernel
theorem dX10_hasChain_159 : decode cX10_hasChain 159 = .ok (.aload_n 0, 1) := by decide +kernel
theorem dX10_hasChain_160 : decode cX10_hasChain 160 = .ok (.getfield 38, 3) := by decide +kernel
theorem dX10_hasChain_163 : decode cX10_hasChain 163 = .ok (.aload_n 0, 1) := by decide +kernel
theorem dX10_hasChain_164 : decode cX10_hasChain 164 = .ok (.getfield 209, 3) := by decide +kernel
theorem dX10_hasChain_167 : decode cX10_hasChain 167 = .ok (.aload_n 0, 1) := by decide +kernel
theorem dX10_hasChain_168 : decode cX10_hasChain 168 = .ok (.getfield 44, 3) := by decide +kernel
theorem dX10_hasChain_171 : decode cX10_hasChain 171 = .ok (.aload_n 0, 1) := by decide +kernel
theorem dX10_hasChain_172 : decode cX10_hasChain 172 = .ok (.getfield 209, 3) := by decide +kernel
theorem dX10_hasChain_175 : decode cX10_hasChain 175 = .ok (.iaload, 1) := by decide +kernel
theorem dX10_hasChain_176 : decode cX10_hasChain 176 = .ok (.iastore, 1) := by decide +kernel
theorem dX10_hasChain_177 : decode cX10_hasChain 177 = .ok (.aload_n 0, 1) := by decide +kernel
theorem dX10_hasChain_178 : decode cX10_hasChain 178 = .ok (.getfield 41, 3) := by decide +kernel
theorem dX10_hasChain_181 : decode cX10_hasChain 181 = .ok (.aload_n 0, 1) := by decide +kernel
theorem dX10_hasChain_182 : decode cX10_hasChain 182 = .ok (.getfield 209, 3) := by decide +kernel
theorem dX10_hasChain_185 : decode cX10_hasChain 185 = .ok (.aload_n 0, 1) := by decide +kernel
theorem dX10_hasChain_186 : decode cX10_hasChain 186 = .ok (.getfield 41, 3) := by decide +kernel
theorem dX10_hasChain_189 : decode cX10_hasChain 189 = .ok (.aload_n 0, 1) := by decide +kernel
theorem dX10_hasChain_190 : decode cX10_hasChain 190 = .ok (.getfield 209, 3) := by decide +kernel
theorem dX10_hasChain_193 : decode cX10_hasChain 193 = .ok (.iconst 1, 1) := by decide +kernel
theorem dX10_hasChain_194 : decode cX10_hasChain 194 = .ok (.isub, 1) := by decide +kernel
theorem dX10_hasChain_195 : decode cX10_hasChain 195 = .ok (.iaload, 1) := by decide +kernel
theorem dX10_hasChain_196 : decode cX10_hasChain 196 = .ok (.aload_n 0, 1) := by decide +kernel
theorem dX10_hasChain_197 : decode cX10_hasChain 197 = .ok (.iload_n 3, 1) := by decide +kernel
theorem dX10_hasChain_198 : decode cX10_hasChain 198 = .ok (.invokevirtual 177, 3) := by decide +kernel
theorem dX10_hasChain_201 : decode cX10_hasChain 201 = .ok (.iand, 1) := by decide +kernel
theorem dX10_hasChain_202 : decode cX10_hasChain 202 = .ok (.iastore, 1) := by decide +kernel
theorem dX10_hasChain_203 : decode cX10_hasChain 203 = .ok (.aload_n 0, 1) := by decide +kernel
theorem dX10_hasChain_204 : decode cX10_hasChain 204 = .ok (.dup, 1) := by decide +kernel
theorem dX10_hasChain_205 : decode cX10_hasChain 205 = .ok (.getfield 209, 3) := by decide +kernel
theorem dX10_hasChain_208 : decode cX10_hasChain 208 = .ok (.iconst 1, 1) := by decide +kernel
theorem dX10_hasChain_209 : decode cX10_hasChain 209 = .ok (.iadd, 1) := by decide +kernel
theorem dX10_hasChain_210 : decode cX10_hasChain 210 = .ok (.putfield 209, 3) := by decide +kernel
theorem dX10_hasChain_213 : decode cX10_hasChain 213 = .ok (.goto (-163), 3) := by decide +kernel
theorem dX10_hasChain_216 : decode cX10_hasChain 216 = .ok (.aload_n 0, 1) := by decide +kernel
theorem dX10_hasChain_217 : decode cX10_hasChain 217 = .ok (.getfield 209, 3) := by decide +kernel
theorem dX10_hasChain_220 : decode cX10_hasChain 220 = .ok (.ifCond .le 7, 3) := by decide +kernel
theorem dX10_hasChain_223 : decode cX10_hasChain 223 = .ok (.iconst 1, 1) := by decide +kernel
theorem dX10_hasChain_224 : decode cX10_hasChain 224 = .ok (.goto 4, 3) := by decide +kernel
theorem dX10_hasChain_227 : decode cX10_hasChain 227 = .ok (.iconst 0, 1) := by decide +kernel
theorem dX10_hasChain_228 : decode cX10_hasChain 228 = .ok (.ireturn, 1) := by decide +kernel
theorem dX10_banks_0 : decode cX10_banks 0 = .ok (.iconst 0, 1) := by decide +kernel
theorem dX10_banks_1 : decode cX10_banks 1 = .ok (.istore_n 2, 1) := by decide +kernel
theorem dX10_banks_2 : decode cX10_banks 2 = .ok (.iconst 0, 1) := by decide +kernel
theorem dX10_banks_3 : decode cX10_banks 3 = .ok (.istore_n 3, 1) := by decide +kernel
theorem dX10_banks_4 : decode cX10_banks 4 = .ok (.iload_n 3, 1) := by decide +kernel
theorem dX10_banks_5 : decode cX10_banks 5 = .ok (.aload_n 0, 1) := by decide +kernel
theorem dX10_banks_6 : decode cX10_banks 6 = .ok (.invokevirtual 193, 3) := by decide +kernel
theorem dX10_banks_9 : decode cX10_banks 9 = .ok (.if_icmp .ge 36, 3) := by decide +kernel
theorem dX10_banks_12 : decode cX10_banks 12 = .ok (.iload_n 2, 1) := by decide +kernel
theorem dX10_banks_13 : decode cX10_banks 13 = .ok (.iload_n 1, 1) := by decide +kernel
theorem dX10_banks_14 : decode cX10_banks 14 = .ok (.iload_n 3, 1) := by decide +kernel
theorem dX10_banks_15 : decode cX10_banks 15 = .ok (.invokestatic 146, 3) := by decide +kernel
theorem dX10_banks_18 : decode cX10_banks 18 = .ok (.ifCond .eq 18, 3) := by decide +kernel
theorem dX10_banks_21 : decode cX10_banks 21 = .ok (.aload_n 0, 1) := by decide +kernel
theorem dX10_banks_22 : decode cX10_banks 22 = .ok (.iload_n 3, 1) := by decide +kernel
theorem dX10_banks_23 : decode cX10_banks 23 = .ok (.iload_n 1, 1) := by decide +kernel
theorem dX10_banks_24 : decode cX10_banks 24 = .ok (.invokevirtual 212, 3) := by decide +kernel
theorem dX10_banks_27 : decode cX10_banks 27 = .ok (.ifCond .eq 9, 3) := by decide +kernel
theorem dX10_banks_30 : decode cX10_banks 30 = .ok (.iconst 1, 1) := by decide +kernel
theorem dX10_banks_31 : decode cX10_banks 31 = .ok (.iload_n 3, 1) := by decide +kernel
theorem dX10_banks_32 : decode cX10_banks 32 = .ok (.ishl, 1) := by decide +kernel
theorem dX10_banks_33 : decode cX10_banks 33 = .ok (.goto 4, 3) := by decide +kernel
theorem dX10_banks_36 : decode cX10_banks 36 = .ok (.iconst 0, 1) := by decide +kernel
theorem dX10_banks_37 : decode cX10_banks 37 = .ok (.ior, 1) := by decide +kernel
theorem dX10_banks_38 : decode cX10_banks 38 = .ok (.istore_n 2, 1) := by decide +kernel
theorem dX10_banks_39 : decode cX10_banks 39 = .ok (.iinc 3 1, 3) := by decide +kernel
theorem dX10_banks_42 : decode cX10_banks 42 = .ok (.goto (-38), 3) := by decide +kernel
theorem dX10_banks_45 : decode cX10_banks 45 = .ok (.iload_n 2, 1) := by decide +kernel
theorem dX10_banks_46 : decode cX10_banks 46 = .ok (.ireturn, 1) := by decide +kernel
theorem dX10_turnedBy_0 : decode cX10_turnedBy 0 = .ok (.aload_n 0, 1) := by decide +kernel
theorem dX10_turnedBy_1 : decode cX10_turnedBy 1 = .ok (.iload_n 1, 1) := by decide +kernel
theorem dX10_turnedBy_2 : decode cX10_turnedBy 2 = .ok (.invokevirtual 177, 3) := by decide +kernel
theorem dX10_turnedBy_5 : decode cX10_turnedBy 5 = .ok (.iload_n 2, 1) := by decide +kernel
theorem dX10_turnedBy_6 : decode cX10_turnedBy 6 = .ok (.iand, 1) := by decide +kernel
theorem dX10_turnedBy_7 : decode cX10_turnedBy 7 = .ok (.invokestatic 200, 3) := by decide +kernel
theorem dX10_turnedBy_10 : decode cX10_turnedBy 10 = .ok (.aload_n 0, 1) := by decide +kernel
theorem dX10_turnedBy_11 : decode cX10_turnedBy 11 = .ok (.getfield 47, 3) := by decide +kernel
theorem dX10_turnedBy_14 : decode cX10_turnedBy 14 = .ok (.iload_n 2, 1) := by decide +kernel
theorem dX10_turnedBy_15 : decode cX10_turnedBy 15 = .ok (.iconst 1, 1) := by decide +kernel
theorem dX10_turnedBy_16 : decode cX10_turnedBy 16 = .ok (.iload_n 1, 1) := by decide +kernel
theorem dX10_turnedBy_17 : decode cX10_turnedBy 17 = .ok (.ishl, 1) := by decide +kernel
theorem dX10_turnedBy_18 : decode cX10_turnedBy 18 = .ok (.iconst (-1), 1) := by decide +kernel
theorem dX10_turnedBy_19 : decode cX10_turnedBy 19 = .ok (.ixor, 1) := by decide +kernel
theorem dX10_turnedBy_20 : decode cX10_turnedBy 20 = .ok (.iand, 1) := by decide +kernel
theorem dX10_turnedBy_21 : decode cX10_turnedBy 21 = .ok (.iaload, 1) := by decide +kernel
theorem dX10_turnedBy_22 : decode cX10_turnedBy 22 = .ok (.iadd, 1) := by decide +kernel
theorem dX10_turnedBy_23 : decode cX10_turnedBy 23 = .ok (.ireturn, 1) := by decide +kernel
theorem dX10_layOrders_0 : decode cX10_layOrders 0 = .ok (.aload_n 0, 1) := by decide +kernel
theorem dX10_layOrders_1 : decode cX10_layOrders 1 = .ok (.getfield 47, 3) := by decide +kernel
theorem dX10_layOrders_4 : decode cX10_layOrders 4 = .ok (.iconst 0, 1) := by decide +kernel
theorem dX10_layOrders_5 : decode cX10_layOrders 5 = .ok (.iconst 0, 1) := by decide +kernel
theorem dX10_layOrders_6 : decode cX10_layOrders 6 = .ok (.iastore, 1) := by decide +kernel
theorem dX10_layOrders_7 : decode cX10_layOrders 7 = .ok (.aload_n 0, 1) := by decide +kernel
theorem dX10_layOrders_8 : decode cX10_layOrders 8 = .ok (.getfield 50, 3) := by decide +kernel
theorem dX10_layOrders_11 : decode cX10_layOrders 11 = .ok (.iconst 0, 1) := by decide +kernel
theorem dX10_layOrders_12 : decode cX10_layOrders 12 = .ok (.iconst 1, 1) := by decide +kernel
theorem dX10_layOrders_13 : decode cX10_layOrders 13 = .ok (.iastore, 1) := by decide +kernel
theorem dX10_layOrders_14 : decode cX10_layOrders 14 = .ok (.iconst 1, 1) := by decide +kernel
theorem dX10_layOrders_15 : decode cX10_layOrders 15 = .ok (.istore_n 1, 1) := by decide +kernel
theorem dX10_layOrders_16 : decode cX10_layOrders 16 = .ok (.iload_n 1, 1) := by decide +kernel
theorem dX10_layOrders_17 : decode cX10_layOrders 17 = .ok (.aload_n 0, 1) := by decide +kernel
theorem dX10_layOrders_18 : decode cX10_layOrders 18 = .ok (.invokevirtual 101, 3) := by decide +kernel
theorem dX10_layOrders_21 : decode cX10_layOrders 21 = .ok (.if_icmp .gt 127, 3) := by decide +kernel
theorem dX10_layOrders_24 : decode cX10_layOrders 24 = .ok (.aload_n 0, 1) := by decide +kernel
theorem dX10_layOrders_25 : decode cX10_layOrders 25 = .ok (.getfield 47, 3) := by decide +kernel
theorem dX10_layOrders_28 : decode cX10_layOrders 28 = .ok (.iload_n 1, 1) := by decide +kernel
theorem dX10_layOrders_29 : decode cX10_layOrders 29 = .ok (.bipush 99, 2) := by decide +kernel
theorem dX10_layOrders_31 : decode cX10_layOrders 31 = .ok (.iastore, 1) := by decide +kernel
theorem dX10_layOrders_32 : decode cX10_layOrders 32 = .ok (.aload_n 0, 1) := by decide +kernel
theorem dX10_layOrders_33 : decode cX10_layOrders 33 = .ok (.getfield 50, 3) := by decide +kernel
theorem dX10_layOrders_36 : decode cX10_layOrders 36 = .ok (.iload_n 1, 1) := by decide +kernel
theorem dX10_layOrders_37 : decode cX10_layOrders 37 = .ok (.iconst 0, 1) := by decide +kernel
theorem dX10_layOrders_38 : decode cX10_layOrders 38 = .ok (.iastore, 1) := by decide +kernel
theorem dX10_layOrders_39 : decode cX10_layOrders 39 = .ok (.iconst 0, 1) := by decide +kernel
theorem dX10_layOrders_40 : decode cX10_layOrders 40 = .ok (.istore_n 2, 1) := by decide +kernel
theorem dX10_layOrders_41 : decode cX10_layOrders 41 = .ok (.iload_n 2, 1) := by decide +kernel
theorem dX10_layOrders_42 : decode cX10_layOrders 42 = .ok (.aload_n 0, 1) := by decide +kernel
theorem dX10_layOrders_43 : decode cX10_layOrders 43 = .ok (.invokevirtual 193, 3) := by decide +kernel
theorem dX10_layOrders_46 : decode cX10_layOrders 46 = .ok (.if_icmp .ge 96, 3) := by decide +kernel
theorem dX10_layOrders_49 : decode cX10_layOrders 49 = .ok (.iload_n 1, 1) := by decide +kernel
theorem dX10_layOrders_50 : decode cX10_layOrders 50 = .ok (.iload_n 2, 1) := by decide +kernel
theorem dX10_layOrders_51 : decode cX10_layOrders 51 = .ok (.invokestatic 146, 3) := by decide +kernel
theorem dX10_layOrders_54 : decode cX10_layOrders 54 = .ok (.ifCond .eq 82, 3) := by decide +kernel
theorem dX10_layOrders_57 : decode cX10_layOrders 57 = .ok (.aload_n 0, 1) := by decide +kernel
theorem dX10_layOrders_58 : decode cX10_layOrders 58 = .ok (.iload_n 2, 1) := by decide +kernel
theorem dX10_layOrders_59 : decode cX10_layOrders 59 = .ok (.iload_n 1, 1) := by decide +kernel
theorem dX10_layOrders_60 : decode cX10_layOrders 60 = .ok (.invokevirtual 215, 3) := by decide +kernel
theorem dX10_layOrders_63 : decode cX10_layOrders 63 = .ok (.aload_n 0, 1) := by decide +kernel
theorem dX10_layOrders_64 : decode cX10_layOrders 64 = .ok (.getfield 47, 3) := by decide +kernel
theorem dX10_layOrders_67 : decode cX10_layOrders 67 = .ok (.iload_n 1, 1) := by decide +kernel
theorem dX10_layOrders_68 : decode cX10_layOrders 68 = .ok (.iaload, 1) := by decide +kernel
theorem dX10_layOrders_69 : decode cX10_layOrders 69 = .ok (.if_icmp .gt 67, 3) := by decide +kernel
theorem dX10_layOrders_72 : decode cX10_layOrders 72 = .ok (.aload_n 0, 1) := by decide +kernel
theorem dX10_layOrders_73 : decode cX10_layOrders 73 = .ok (.getfield 50, 3) := by decide +kernel
theorem dX10_layOrders_76 : decode cX10_layOrders 76 = .ok (.iload_n 1, 1) := by decide +kernel
theorem dX10_layOrders_77 : decode cX10_layOrders 77 = .ok (.aload_n 0, 1) := by decide +kernel
theorem dX10_layOrders_78 : decode cX10_layOrders 78 = .ok (.iload_n 2, 1) := by decide +kernel
theorem dX10_layOrders_79 : decode cX10_layOrders 79 = .ok (.iload_n 1, 1) := by decide +kernel
theorem dX10_layOrders_80 : decode cX10_layOrders 80 = .ok (.invokevirtual 215, 3) := by decide +kernel
theorem dX10_layOrders_83 : decode cX10_layOrders 83 = .ok (.aload_n 0, 1) := by decide +kernel
theorem dX10_layOrders_84 : decode cX10_layOrders 84 = .ok (.getfield 47, 3) := by decide +kernel
theorem dX10_layOrders_87 : decode cX10_layOrders 87 = .ok (.iload_n 1, 1) := by decide +kernel
theorem dX10_layOrders_88 : decode cX10_layOrders 88 = .ok (.iaload, 1) := by decide +kernel
theorem dX10_layOrders_89 : decode cX10_layOrders 89 = .ok (.if_icmp .ge 7, 3) := by decide +kernel
theorem dX10_layOrders_92 : decode cX10_layOrders 92 = .ok (.iconst 0, 1) := by decide +kernel
theorem dX10_layOrders_93 : decode cX10_layOrders 93 = .ok (.goto 9, 3) := by decide +kernel
theorem dX10_layOrders_96 : decode cX10_layOrders 96 = .ok (.aload_n 0, 1) := by decide +kernel
theorem dX10_layOrders_97 : decode cX10_layOrders 97 = .ok (.getfield 50, 3) := by decide +kernel
theorem dX10_layOrders_100 : decode cX10_layOrders 100 = .ok (.iload_n 1, 1) := by decide +kernel
theorem dX10_layOrders_101 : decode cX10_layOrders 101 = .ok (.iaload, 1) := by decide +kernel
theorem dX10_layOrders_102 : decode cX10_layOrders 102 = .ok (.iastore, 1) := by decide +kernel
theorem dX10_layOrders_103 : decode cX10_layOrders 103 = .ok (.aload_n 0, 1) := by decide +kernel
theorem dX10_layOrders_104 : decode cX10_layOrders 104 = .ok (.getfield 47, 3) := by decide +kernel
theorem dX10_layOrders_107 : decode cX10_layOrders 107 = .ok (.iload_n 1, 1) := by decide +kernel
theorem dX10_layOrders_108 : decode cX10_layOrders 108 = .ok (.aload_n 0, 1) := by decide +kernel
theorem dX10_layOrders_109 : decode cX10_layOrders 109 = .ok (.iload_n 2, 1) := by decide +kernel
theorem dX10_layOrders_110 : decode cX10_layOrders 110 = .ok (.iload_n 1, 1) := by decide +kernel
theorem dX10_layOrders_111 : decode cX10_layOrders 111 = .ok (.invokevirtual 215, 3) := by decide +kernel
theorem dX10_layOrders_114 : decode cX10_layOrders 114 = .ok (.iastore, 1) := by decide +kernel
theorem dX10_layOrders_115 : decode cX10_layOrders 115 = .ok (.aload_n 0, 1) := by decide +kernel
theorem dX10_layOrders_116 : decode cX10_layOrders 116 = .ok (.getfield 50, 3) := by decide +kernel
theorem dX10_layOrders_119 : decode cX10_layOrders 119 = .ok (.iload_n 1, 1) := by decide +kernel
theorem dX10_layOrders_120 : decode cX10_layOrders 120 = .ok (.dup2, 1) := by decide +kernel
theorem dX10_layOrders_121 : decode cX10_layOrders 121 = .ok (.iaload, 1) := by decide +kernel
theorem dX10_layOrders_122 : decode cX10_layOrders 122 = .ok (.aload_n 0, 1) := by decide +kernel
theorem dX10_layOrders_123 : decode cX10_layOrders 123 = .ok (.getfield 50, 3) := by decide +kernel
theorem dX10_layOrders_126 : decode cX10_layOrders 126 = .ok (.iload_n 1, 1) := by decide +kernel
theorem dX10_layOrders_127 : decode cX10_layOrders 127 = .ok (.iconst 1, 1) := by decide +kernel
theorem dX10_layOrders_128 : decode cX10_layOrders 128 = .ok (.iload_n 2, 1) := by decide +kernel
theorem dX10_layOrders_129 : decode cX10_layOrders 129 = .ok (.ishl, 1) := by decide +kernel
theorem dX10_layOrders_130 : decode cX10_layOrders 130 = .ok (.iconst (-1), 1) := by decide +kernel
theorem dX10_layOrders_131 : decode cX10_layOrders 131 = .ok (.ixor, 1) := by decide +kernel
theorem dX10_layOrders_132 : decode cX10_layOrders 132 = .ok (.iand, 1) := by decide +kernel
theorem dX10_layOrders_133 : decode cX10_layOrders 133 = .ok (.iaload, 1) := by decide +kernel
theorem dX10_layOrders_134 : decode cX10_layOrders 134 = .ok (.iadd, 1) := by decide +kernel
theorem dX10_layOrders_135 : decode cX10_layOrders 135 = .ok (.iastore, 1) := by decide +kernel
theorem dX10_layOrders_136 : decode cX10_layOrders 136 = .ok (.iinc 2 1, 3) := by decide +kernel
theorem dX10_layOrders_139 : decode cX10_layOrders 139 = .ok (.goto (-98), 3) := by decide +kernel
theorem dX10_layOrders_142 : decode cX10_layOrders 142 = .ok (.iinc 1 1, 3) := by decide +kernel
theorem dX10_layOrders_145 : decode cX10_layOrders 145 = .ok (.goto (-129), 3) := by decide +kernel
theorem dX10_layOrders_148 : decode cX10_layOrders 148 = .ok (.return_, 1) := by decide +kernel
theorem dX10_slater_0 : decode cX10_slater 0 = .ok (.aload_n 0, 1) := by decide +kernel
theorem dX10_slater_1 : decode cX10_slater 1 = .ok (.invokevirtual 218, 3) := by decide +kernel
theorem dX10_slater_4 : decode cX10_slater 4 = .ok (.iconst 0, 1) := by decide +kernel
theorem dX10_slater_5 : decode cX10_slater 5 = .ok (.istore_n 2, 1) := by decide +kernel
theorem dX10_slater_6 : decode cX10_slater 6 = .ok (.iconst 0, 1) := by decide +kernel
theorem dX10_slater_7 : decode cX10_slater 7 = .ok (.istore_n 3, 1) := by decide +kernel
theorem dX10_slater_8 : decode cX10_slater 8 = .ok (.iload_n 3, 1) := by decide +kernel
theorem dX10_slater_9 : decode cX10_slater 9 = .ok (.aload_n 0, 1) := by decide +kernel
theorem dX10_slater_10 : decode cX10_slater 10 = .ok (.invokevirtual 193, 3) := by decide +kernel
theorem dX10_slater_13 : decode cX10_slater 13 = .ok (.if_icmp .ge 42, 3) := by decide +kernel
theorem dX10_slater_16 : decode cX10_slater 16 = .ok (.iload_n 2, 1) := by decide +kernel
theorem dX10_slater_17 : decode cX10_slater 17 = .ok (.iload_n 1, 1) := by decide +kernel
theorem dX10_slater_18 : decode cX10_slater 18 = .ok (.iload_n 3, 1) := by decide +kernel
theorem dX10_slater_19 : decode cX10_slater 19 = .ok (.invokestatic 146, 3) := by decide +kernel
theorem dX10_slater_22 : decode cX10_slater 22 = .ok (.ifCond .eq 24, 3) := by decide +kernel
theorem dX10_slater_25 : decode cX10_slater 25 = .ok (.aload_n 0, 1) := by decide +kernel
theorem dX10_slater_26 : decode cX10_slater 26 = .ok (.iload_n 3, 1) := by decide +kernel
theorem dX10_slater_27 : decode cX10_slater 27 = .ok (.iload_n 1, 1) := by decide +kernel
theorem dX10_slater_28 : decode cX10_slater 28 = .ok (.invokevirtual 215, 3) := by decide +kernel
theorem dX10_slater_31 : decode cX10_slater 31 = .ok (.aload_n 0, 1) := by decide +kernel
theorem dX10_slater_32 : decode cX10_slater 32 = .ok (.getfield 47, 3) := by decide +kernel
theorem dX10_slater_35 : decode cX10_slater 35 = .ok (.iload_n 1, 1) := by decide +kernel
theorem dX10_slater_36 : decode cX10_slater 36 = .ok (.iaload, 1) := by decide +kernel
theorem dX10_slater_37 : decode cX10_slater 37 = .ok (.if_icmp .ne 9, 3) := by decide +kernel
theorem dX10_slater_40 : decode cX10_slater 40 = .ok (.iconst 1, 1) := by decide +kernel
theorem dX10_slater_41 : decode cX10_slater 41 = .ok (.iload_n 3, 1) := by decide +kernel
theorem dX10_slater_42 : decode cX10_slater 42 = .ok (.ishl, 1) := by decide +kernel
theorem dX10_slater_43 : decode cX10_slater 43 = .ok (.goto 4, 3) := by decide +kernel
theorem dX10_slater_46 : decode cX10_slater 46 = .ok (.iconst 0, 1) := by decide +kernel
theorem dX10_slater_47 : decode cX10_slater 47 = .ok (.ior, 1) := by decide +kernel
theorem dX10_slater_48 : decode cX10_slater 48 = .ok (.istore_n 2, 1) := by decide +kernel
theorem dX10_slater_49 : decode cX10_slater 49 = .ok (.iinc 3 1, 3) := by decide +kernel
theorem dX10_slater_52 : decode cX10_slater 52 = .ok (.goto (-44), 3) := by decide +kernel
theorem dX10_slater_55 : decode cX10_slater 55 = .ok (.iload_n 2, 1) := by decide +kernel
theorem dX10_slater_56 : decode cX10_slater 56 = .ok (.ireturn, 1) := by decide +kernel
theorem dX10_isCovering_0 : decode cX10_isCovering 0 = .ok (.iload_n 1, 1) := by decide +kernel
theorem dX10_isCovering_1 : decode cX10_isCovering 1 = .ok (.ifCond .eq 7, 3) := by decide +kernel
theorem dX10_isCovering_4 : decode cX10_isCovering 4 = .ok (.iconst 1, 1) := by decide +kernel
theorem dX10_isCovering_5 : decode cX10_isCovering 5 = .ok (.goto 4, 3) := by decide +kernel
theorem dX10_isCovering_8 : decode cX10_isCovering 8 = .ok (.iconst 0, 1) := by decide +kernel
theorem dX10_isCovering_9 : decode cX10_isCovering 9 = .ok (.istore_n 3, 1) := by decide +kernel
theorem dX10_isCovering_10 : decode cX10_isCovering 10 = .ok (.iconst 0, 1) := by decide +kernel
theorem dX10_isCovering_11 : decode cX10_isCovering 11 = .ok (.istore 4, 2) := by decide +kernel
theorem dX10_isCovering_13 : decode cX10_isCovering 13 = .ok (.iload 4, 2) := by decide +kernel
theorem dX10_isCovering_15 : decode cX10_isCovering 15 = .ok (.aload_n 0, 1) := by decide +kernel
theorem dX10_isCovering_16 : decode cX10_isCovering 16 = .ok (.invokevirtual 193, 3) := by decide +kernel
theorem dX10_isCovering_19 : decode cX10_isCovering 19 = .ok (.if_icmp .ge 83, 3) := by decide +kernel
theorem dX10_isCovering_22 : decode cX10_isCovering 22 = .ok (.iload_n 3, 1) := by decide +kernel
theorem dX10_isCovering_23 : decode cX10_isCovering 23 = .ok (.ifCond .eq 79, 3) := by decide +kernel
theorem dX10_isCovering_26 : decode cX10_isCovering 26 = .ok (.iload_n 2, 1) := by decide +kernel
theorem dX10_isCovering_27 : decode cX10_isCovering 27 = .ok (.iload_n 1, 1) := by decide +kernel
theorem dX10_isCovering_28 : decode cX10_isCovering 28 = .ok (.iconst (-1), 1) := by decide +kernel
theorem dX10_isCovering_29 : decode cX10_isCovering 29 = .ok (.ixor, 1) := by decide +kernel
theorem dX10_isCovering_30 : decode cX10_isCovering 30 = .ok (.iand, 1) := by decide +kernel
theorem dX10_isCovering_31 : decode cX10_isCovering 31 = .ok (.iload 4, 2) := by decide +kernel
theorem dX10_isCovering_33 : decode cX10_isCovering 33 = .ok (.invokestatic 146, 3) := by decide +kernel
theorem dX10_isCovering_36 : decode cX10_isCovering 36 = .ok (.ifCond .eq 60, 3) := by decide +kernel
theorem dX10_isCovering_39 : decode cX10_isCovering 39 = .ok (.iconst 0, 1) := by decide +kernel
theorem dX10_isCovering_40 : decode cX10_isCovering 40 = .ok (.istore 5, 2) := by decide +kernel
theorem dX10_isCovering_42 : decode cX10_isCovering 42 = .ok (.iconst 0, 1) := by decide +kernel
theorem dX10_isCovering_43 : decode cX10_isCovering 43 = .ok (.istore 6, 2) := by decide +kernel
theorem dX10_isCovering_45 : decode cX10_isCovering 45 = .ok (.iload 6, 2) := by decide +kernel
theorem dX10_isCovering_47 : decode cX10_isCovering 47 = .ok (.aload_n 0, 1) := by decide +kernel
theorem dX10_isCovering_48 : decode cX10_isCovering 48 = .ok (.invokevirtual 193, 3) := by decide +kernel
theorem dX10_isCovering_51 : decode cX10_isCovering 51 = .ok (.if_icmp .ge 42, 3) := by decide +kernel
theorem dX10_isCovering_54 : decode cX10_isCovering 54 = .ok (.iload 5, 2) := by decide +kernel
theorem dX10_isCovering_56 : decode cX10_isCovering 56 = .ok (.ifCond .ne 24, 3) := by decide +kernel
theorem dX10_isCovering_59 : decode cX10_isCovering 59 = .ok (.iload_n 1, 1) := by decide +kernel
theorem dX10_isCovering_60 : decode cX10_isCovering 60 = .ok (.iload 6, 2) := by decide +kernel
theorem dX10_isCovering_62 : decode cX10_isCovering 62 = .ok (.invokestatic 146, 3) := by decide +kernel
theorem dX10_isCovering_65 : decode cX10_isCovering 65 = .ok (.ifCond .eq 19, 3) := by decide +kernel
theorem dX10_isCovering_68 : decode cX10_isCovering 68 = .ok (.aload_n 0, 1) := by decide +kernel
theorem dX10_isCovering_69 : decode cX10_isCovering 69 = .ok (.iload 6, 2) := by decide +kernel
theorem dX10_isCovering_71 : decode cX10_isCovering 71 = .ok (.iload 4, 2) := by decide +kernel
theorem dX10_isCovering_73 : decode cX10_isCovering 73 = .ok (.iload_n 1, 1) := by decide +kernel
theorem dX10_isCovering_74 : decode cX10_isCovering 74 = .ok (.invokevirtual 173, 3) := by decide +kernel
theorem dX10_isCovering_77 : decode cX10_isCovering 77 = .ok (.ifCond .eq 7, 3) := by decide +kernel
theorem dX10_isCovering_80 : decode cX10_isCovering 80 = .ok (.iconst 1, 1) := by decide +kernel
theorem dX10_isCovering_81 : decode cX10_isCovering 81 = .ok (.goto 4, 3) := by decide +kernel
theorem dX10_isCovering_84 : decode cX10_isCovering 84 = .ok (.iconst 0, 1) := by decide +kernel
theorem dX10_isCovering_85 : decode cX10_isCovering 85 = .ok (.istore 5, 2) := by decide +kernel
theorem dX10_isCovering_87 : decode cX10_isCovering 87 = .ok (.iinc 6 1, 3) := by decide +kernel
theorem dX10_isCovering_90 : decode cX10_isCovering 90 = .ok (.goto (-45), 3) := by decide +kernel
theorem dX10_isCovering_93 : decode cX10_isCovering 93 = .ok (.iload 5, 2) := by decide +kernel
theorem dX10_isCovering_95 : decode cX10_isCovering 95 = .ok (.istore_n 3, 1) := by decide +kernel
theorem dX10_isCovering_96 : decode cX10_isCovering 96 = .ok (.iinc 4 1, 3) := by decide +kernel
theorem dX10_isCovering_99 : decode cX10_isCovering 99 = .ok (.goto (-86), 3) := by decide +kernel
theorem dX10_isCovering_102 : decode cX10_isCovering 102 = .ok (.iload_n 3, 1) := by decide +kernel
theorem dX10_isCovering_103 : decode cX10_isCovering 103 = .ok (.ireturn, 1) := by decide +kernel
theorem dX10_covering_0 : decode cX10_covering 0 = .ok (.iload_n 1, 1) := by decide +kernel
theorem dX10_covering_1 : decode cX10_covering 1 = .ok (.istore_n 2, 1) := by decide +kernel
theorem dX10_covering_2 : decode cX10_covering 2 = .ok (.iconst 1, 1) := by decide +kernel
theorem dX10_covering_3 : decode cX10_covering 3 = .ok (.istore_n 3, 1) := by decide +kernel
theorem dX10_covering_4 : decode cX10_covering 4 = .ok (.iload_n 3, 1) := by decide +kernel
theorem dX10_covering_5 : decode cX10_covering 5 = .ok (.sipush 256, 3) := by decide +kernel
theorem dX10_covering_8 : decode cX10_covering 8 = .ok (.if_icmp .ge 43, 3) := by decide +kernel
theorem dX10_covering_11 : decode cX10_covering 11 = .ok (.iload_n 3, 1) := by decide +kernel
theorem dX10_covering_12 : decode cX10_covering 12 = .ok (.iload_n 1, 1) := by decide +kernel
theorem dX10_covering_13 : decode cX10_covering 13 = .ok (.invokestatic 105, 3) := by decide +kernel
theorem dX10_covering_16 : decode cX10_covering 16 = .ok (.ifCond .eq 27, 3) := by decide +kernel
theorem dX10_covering_19 : decode cX10_covering 19 = .ok (.iload_n 3, 1) := by decide +kernel
theorem dX10_covering_20 : decode cX10_covering 20 = .ok (.invokestatic 200, 3) := by decide +kernel
theorem dX10_covering_23 : decode cX10_covering 23 = .ok (.iload_n 2, 1) := by decide +kernel
theorem dX10_covering_24 : decode cX10_covering 24 = .ok (.invokestatic 200, 3) := by decide +kernel
theorem dX10_covering_27 : decode cX10_covering 27 = .ok (.if_icmp .ge 16, 3) := by decide +kernel
theorem dX10_covering_30 : decode cX10_covering 30 = .ok (.aload_n 0, 1) := by decide +kernel
theorem dX10_covering_31 : decode cX10_covering 31 = .ok (.iload_n 3, 1) := by decide +kernel
theorem dX10_covering_32 : decode cX10_covering 32 = .ok (.iload_n 1, 1) := by decide +kernel
theorem dX10_covering_33 : decode cX10_covering 33 = .ok (.invokevirtual 221, 3) := by decide +kernel
theorem dX10_covering_36 : decode cX10_covering 36 = .ok (.ifCond .eq 7, 3) := by decide +kernel
theorem dX10_covering_39 : decode cX10_covering 39 = .ok (.iload_n 3, 1) := by decide +kernel
theorem dX10_covering_40 : decode cX10_covering 40 = .ok (.goto 4, 3) := by decide +kernel
theorem dX10_covering_43 : decode cX10_covering 43 = .ok (.iload_n 2, 1) := by decide +kernel
theorem dX10_covering_44 : decode cX10_covering 44 = .ok (.istore_n 2, 1) := by decide +kernel
theorem dX10_covering_45 : decode cX10_covering 45 = .ok (.iinc 3 1, 3) := by decide +kernel
theorem dX10_covering_48 : decode cX10_covering 48 = .ok (.goto (-44), 3) := by decide +kernel
theorem dX10_covering_51 : decode cX10_covering 51 = .ok (.iload_n 2, 1) := by decide +kernel
theorem dX10_covering_52 : decode cX10_covering 52 = .ok (.ireturn, 1) := by decide +kernel
theorem dX10_against_0 : decode cX10_against 0 = .ok (.aload_n 0, 1) := by decide +kernel
theorem dX10_against_1 : decode cX10_against 1 = .ok (.iload_n 1, 1) := by decide +kernel
theorem dX10_against_2 : decode cX10_against 2 = .ok (.invokevirtual 166, 3) := by decide +kernel
theorem dX10_against_5 : decode cX10_against 5 = .ok (.iload_n 2, 1) := by decide +kernel
theorem dX10_against_6 : decode cX10_against 6 = .ok (.invokestatic 146, 3) := by decide +kernel
theorem dX10_against_9 : decode cX10_against 9 = .ok (.ifCond .eq 7, 3) := by decide +kernel
theorem dX10_against_12 : decode cX10_against 12 = .ok (.iconst 1, 1) := by decide +kernel
theorem dX10_against_13 : decode cX10_against 13 = .ok (.goto 4, 3) := by decide +kernel
theorem dX10_against_16 : decode cX10_against 16 = .ok (.iconst (-1), 1) := by decide +kernel
theorem dX10_against_17 : decode cX10_against 17 = .ok (.ireturn, 1) := by decide +kernel
theorem dX10_layPairings_0 : decode cX10_layPairings 0 = .ok (.aload_n 0, 1) := by decide +kernel
theorem dX10_layPairings_1 : decode cX10_layPairings 1 = .ok (.getfield 53, 3) := by decide +kernel
theorem dX10_layPairings_4 : decode cX10_layPairings 4 = .ok (.iconst 0, 1) := by decide +kernel
theorem dX10_layPairings_5 : decode cX10_layPairings 5 = .ok (.iconst 1, 1) := by decide +kernel
theorem dX10_layPairings_6 : decode cX10_layPairings 6 = .ok (.iastore, 1) := by decide +kernel
theorem dX10_layPairings_7 : decode cX10_layPairings 7 = .ok (.iconst 1, 1) := by decide +kernel
theorem dX10_layPairings_8 : decode cX10_layPairings 8 = .ok (.istore_n 1, 1) := by decide +kernel
theorem dX10_layPairings_9 : decode cX10_layPairings 9 = .ok (.iload_n 1, 1) := by decide +kernel
theorem dX10_layPairings_10 : decode cX10_layPairings 10 = .ok (.aload_n 0, 1) := by decide +kernel
theorem dX10_layPairings_11 : decode cX10_layPairings 11 = .ok (.invokevirtual 101, 3) := by decide +kernel
theorem dX10_layPairings_14 : decode cX10_layPairings 14 = .ok (.if_icmp .gt 106, 3) := by decide +kernel
theorem dX10_layPairings_17 : decode cX10_layPairings 17 = .ok (.aload_n 0, 1) := by decide +kernel
theorem dX10_layPairings_18 : decode cX10_layPairings 18 = .ok (.getfield 53, 3) := by decide +kernel
theorem dX10_layPairings_21 : decode cX10_layPairings 21 = .ok (.iload_n 1, 1) := by decide +kernel
theorem dX10_layPairings_22 : decode cX10_layPairings 22 = .ok (.iconst 0, 1) := by decide +kernel
theorem dX10_layPairings_23 : decode cX10_layPairings 23 = .ok (.iastore, 1) := by decide +kernel
theorem dX10_layPairings_24 : decode cX10_layPairings 24 = .ok (.iload_n 1, 1) := by decide +kernel
theorem dX10_layPairings_25 : decode cX10_layPairings 25 = .ok (.invokestatic 180, 3) := by decide +kernel
theorem dX10_layPairings_28 : decode cX10_layPairings 28 = .ok (.istore_n 2, 1) := by decide +kernel
theorem dX10_layPairings_29 : decode cX10_layPairings 29 = .ok (.iload_n 1, 1) := by decide +kernel
theorem dX10_layPairings_30 : decode cX10_layPairings 30 = .ok (.iconst 1, 1) := by decide +kernel
theorem dX10_layPairings_31 : decode cX10_layPairings 31 = .ok (.iload_n 2, 1) := by decide +kernel
theorem dX10_layPairings_32 : decode cX10_layPairings 32 = .ok (.ishl, 1) := by decide +kernel
theorem dX10_layPairings_33 : decode cX10_layPairings 33 = .ok (.iconst (-1), 1) := by decide +kernel
theorem dX10_layPairings_34 : decode cX10_layPairings 34 = .ok (.ixor, 1) := by decide +kernel
theorem dX10_layPairings_35 : decode cX10_layPairings 35 = .ok (.iand, 1) := by decide +kernel
theorem dX10_layPairings_36 : decode cX10_layPairings 36 = .ok (.istore_n 3, 1) := by decide +kernel
theorem dX10_layPairings_37 : decode cX10_layPairings 37 = .ok (.iconst 1, 1) := by decide +kernel
theorem dX10_layPairings_38 : decode cX10_layPairings 38 = .ok (.istore 4, 2) := by decide +kernel
theorem dX10_layPairings_40 : decode cX10_layPairings 40 = .ok (.iconst 0, 1) := by decide +kernel
theorem dX10_layPairings_41 : decode cX10_layPairings 41 = .ok (.istore 5, 2) := by decide +kernel
theorem dX10_layPairings_43 : decode cX10_layPairings 43 = .ok (.iload 5, 2) := by decide +kernel
theorem dX10_layPairings_45 : decode cX10_layPairings 45 = .ok (.aload_n 0, 1) := by decide +kernel
theorem dX10_layPairings_46 : decode cX10_layPairings 46 = .ok (.invokevirtual 193, 3) := by decide +kernel
theorem dX10_layPairings_49 : decode cX10_layPairings 49 = .ok (.if_icmp .ge 65, 3) := by decide +kernel
theorem dX10_layPairings_52 : decode cX10_layPairings 52 = .ok (.iload_n 1, 1) := by decide +kernel
theorem dX10_layPairings_53 : decode cX10_layPairings 53 = .ok (.invokestatic 200, 3) := by decide +kernel
theorem dX10_layPairings_56 : decode cX10_layPairings 56 = .ok (.iconst 2, 1) := by decide +kernel
theorem dX10_layPairings_57 : decode cX10_layPairings 57 = .ok (.irem, 1) := by decide +kernel
theorem dX10_layPairings_58 : decode cX10_layPairings 58 = .ok (.ifCond .ne 56, 3) := by decide +kernel
theorem dX10_layPairings_61 : decode cX10_layPairings 61 = .ok (.iload_n 3, 1) := by decide +kernel
theorem dX10_layPairings_62 : decode cX10_layPairings 62 = .ok (.iload 5, 2) := by decide +kernel
theorem dX10_layPairings_64 : decode cX10_layPairings 64 = .ok (.invokestatic 146, 3) := by decide +kernel
theorem dX10_layPairings_67 : decode cX10_layPairings 67 = .ok (.ifCond .eq 41, 3) := by decide +kernel
theorem dX10_layPairings_70 : decode cX10_layPairings 70 = .ok (.aload_n 0, 1) := by decide +kernel
theorem dX10_layPairings_71 : decode cX10_layPairings 71 = .ok (.getfield 53, 3) := by decide +kernel
theorem dX10_layPairings_74 : decode cX10_layPairings 74 = .ok (.iload_n 1, 1) := by decide +kernel
theorem dX10_layPairings_75 : decode cX10_layPairings 75 = .ok (.dup2, 1) := by decide +kernel
theorem dX10_layPairings_76 : decode cX10_layPairings 76 = .ok (.iaload, 1) := by decide +kernel
theorem dX10_layPairings_77 : decode cX10_layPairings 77 = .ok (.iload 4, 2) := by decide +kernel
theorem dX10_layPairings_79 : decode cX10_layPairings 79 = .ok (.aload_n 0, 1) := by decide +kernel
theorem dX10_layPairings_80 : decode cX10_layPairings 80 = .ok (.iload_n 2, 1) := by decide +kernel
theorem dX10_layPairings_81 : decode cX10_layPairings 81 = .ok (.iload 5, 2) := by decide +kernel
theorem dX10_layPairings_83 : decode cX10_layPairings 83 = .ok (.invokevirtual 224, 3) := by decide +kernel
theorem dX10_layPairings_86 : decode cX10_layPairings 86 = .ok (.imul, 1) := by decide +kernel
theorem dX10_layPairings_87 : decode cX10_layPairings 87 = .ok (.aload_n 0, 1) := by decide +kernel
theorem dX10_layPairings_88 : decode cX10_layPairings 88 = .ok (.getfield 53, 3) := by decide +kernel
theorem dX10_layPairings_91 : decode cX10_layPairings 91 = .ok (.iload_n 3, 1) := by decide +kernel
theorem dX10_layPairings_92 : decode cX10_layPairings 92 = .ok (.iconst 1, 1) := by decide +kernel
theorem dX10_layPairings_93 : decode cX10_layPairings 93 = .ok (.iload 5, 2) := by decide +kernel
theorem dX10_layPairings_95 : decode cX10_layPairings 95 = .ok (.ishl, 1) := by decide +kernel
theorem dX10_layPairings_96 : decode cX10_layPairings 96 = .ok (.iconst (-1), 1) := by decide +kernel
theorem dX10_layPairings_97 : decode cX10_layPairings 97 = .ok (.ixor, 1) := by decide +kernel
theorem dX10_layPairings_98 : decode cX10_layPairings 98 = .ok (.iand, 1) := by decide +kernel
theorem dX10_layPairings_99 : decode cX10_layPairings 99 = .ok (.iaload, 1) := by decide +kernel
theorem dX10_layPairings_100 : decode cX10_layPairings 100 = .ok (.imul, 1) := by decide +kernel
theorem dX10_layPairings_101 : decode cX10_layPairings 101 = .ok (.iadd, 1) := by decide +kernel
theorem dX10_layPairings_102 : decode cX10_layPairings 102 = .ok (.iastore, 1) := by decide +kernel
theorem dX10_layPairings_103 : decode cX10_layPairings 103 = .ok (.iload 4, 2) := by decide +kernel
theorem dX10_layPairings_105 : decode cX10_layPairings 105 = .ok (.ineg, 1) := by decide +kernel
theorem dX10_layPairings_106 : decode cX10_layPairings 106 = .ok (.istore 4, 2) := by decide +kernel
theorem dX10_layPairings_108 : decode cX10_layPairings 108 = .ok (.iinc 5 1, 3) := by decide +kernel
theorem dX10_layPairings_111 : decode cX10_layPairings 111 = .ok (.goto (-68), 3) := by decide +kernel
theorem dX10_layPairings_114 : decode cX10_layPairings 114 = .ok (.iinc 1 1, 3) := by decide +kernel
theorem dX10_layPairings_117 : decode cX10_layPairings 117 = .ok (.goto (-108), 3) := by decide +kernel
theorem dX10_layPairings_120 : decode cX10_layPairings 120 = .ok (.return_, 1) := by decide +kernel
theorem dX10_commonOf_0 : decode cX10_commonOf 0 = .ok (.iload_n 0, 1) := by decide +kernel
theorem dX10_commonOf_1 : decode cX10_commonOf 1 = .ok (.istore_n 2, 1) := by decide +kernel
theorem dX10_commonOf_2 : decode cX10_commonOf 2 = .ok (.iload_n 1, 1) := by decide +kernel
theorem dX10_commonOf_3 : decode cX10_commonOf 3 = .ok (.istore_n 3, 1) := by decide +kernel
theorem dX10_commonOf_4 : decode cX10_commonOf 4 = .ok (.iload_n 3, 1) := by decide +kernel
theorem dX10_commonOf_5 : decode cX10_commonOf 5 = .ok (.ifCond .eq 16, 3) := by decide +kernel
theorem dX10_commonOf_8 : decode cX10_commonOf 8 = .ok (.iload_n 2, 1) := by decide +kernel
theorem dX10_commonOf_9 : decode cX10_commonOf 9 = .ok (.iload_n 3, 1) := by decide +kernel
theorem dX10_commonOf_10 : decode cX10_commonOf 10 = .ok (.irem, 1) := by decide +kernel
theorem dX10_commonOf_11 : decode cX10_commonOf 11 = .ok (.istore 4, 2) := by decide +kernel
theorem dX10_commonOf_13 : decode cX10_commonOf 13 = .ok (.iload_n 3, 1) := by decide +kernel
theorem dX10_commonOf_14 : decode cX10_commonOf 14 = .ok (.istore_n 2, 1) := by decide +kernel
theorem dX10_commonOf_15 : decode cX10_commonOf 15 = .ok (.iload 4, 2) := by decide +kernel
theorem dX10_commonOf_17 : decode cX10_commonOf 17 = .ok (.istore_n 3, 1) := by decide +kernel
theorem dX10_commonOf_18 : decode cX10_commonOf 18 = .ok (.goto (-14), 3) := by decide +kernel
theorem dX10_commonOf_21 : decode cX10_commonOf 21 = .ok (.iload_n 2, 1) := by decide +kernel
theorem dX10_commonOf_22 : decode cX10_commonOf 22 = .ok (.ireturn, 1) := by decide +kernel
theorem dX10_weighs_0 : decode cX10_weighs 0 = .ok (.iconst 1, 1) := by decide +kernel
theorem dX10_weighs_1 : decode cX10_weighs 1 = .ok (.istore_n 2, 1) := by decide +kernel
theorem dX10_weighs_2 : decode cX10_weighs 2 = .ok (.iconst 0, 1) := by decide +kernel
theorem dX10_weighs_3 : decode cX10_weighs 3 = .ok (.istore_n 3, 1) := by decide +kernel
theorem dX10_weighs_4 : decode cX10_weighs 4 = .ok (.iconst 1, 1) := by decide +kernel
theorem dX10_weighs_5 : decode cX10_weighs 5 = .ok (.istore 4, 2) := by decide +kernel
theorem dX10_weighs_7 : decode cX10_weighs 7 = .ok (.aload_n 0, 1) := by decide +kernel
theorem dX10_weighs_8 : decode cX10_weighs 8 = .ok (.getfield 53, 3) := by decide +kernel
theorem dX10_weighs_11 : decode cX10_weighs 11 = .ok (.iload_n 1, 1) := by decide +kernel
theorem dX10_weighs_12 : decode cX10_weighs 12 = .ok (.iconst 1, 1) := by decide +kernel
theorem dX10_weighs_13 : decode cX10_weighs 13 = .ok (.iload_n 1, 1) := by decide +kernel
theorem dX10_weighs_14 : decode cX10_weighs 14 = .ok (.invokestatic 180, 3) := by decide +kernel
theorem dX10_weighs_17 : decode cX10_weighs 17 = .ok (.ishl, 1) := by decide +kernel
theorem dX10_weighs_18 : decode cX10_weighs 18 = .ok (.iconst (-1), 1) := by decide +kernel
theorem dX10_weighs_19 : decode cX10_weighs 19 = .ok (.ixor, 1) := by decide +kernel
theorem dX10_weighs_20 : decode cX10_weighs 20 = .ok (.iand, 1) := by decide +kernel
theorem dX10_weighs_21 : decode cX10_weighs 21 = .ok (.iaload, 1) := by decide +kernel
theorem dX10_weighs_22 : decode cX10_weighs 22 = .ok (.ifCond .ge 7, 3) := by decide +kernel
theorem dX10_weighs_25 : decode cX10_weighs 25 = .ok (.iconst 1, 1) := by decide +kernel
theorem dX10_weighs_26 : decode cX10_weighs 26 = .ok (.goto 4, 3) := by decide +kernel
theorem dX10_weighs_29 : decode cX10_weighs 29 = .ok (.iconst 0, 1) := by decide +kernel
theorem dX10_weighs_30 : decode cX10_weighs 30 = .ok (.istore 5, 2) := by decide +kernel
theorem dX10_weighs_32 : decode cX10_weighs 32 = .ok (.iconst 0, 1) := by decide +kernel
theorem dX10_weighs_33 : decode cX10_weighs 33 = .ok (.istore 6, 2) := by decide +kernel
theorem dX10_weighs_35 : decode cX10_weighs 35 = .ok (.iload 6, 2) := by decide +kernel
theorem dX10_weighs_37 : decode cX10_weighs 37 = .ok (.bipush 8, 2) := by decide +kernel
theorem dX10_weighs_39 : decode cX10_weighs 39 = .ok (.if_icmp .ge 100, 3) := by decide +kernel
theorem dX10_weighs_42 : decode cX10_weighs 42 = .ok (.aload_n 0, 1) := by decide +kernel
theorem dX10_weighs_43 : decode cX10_weighs 43 = .ok (.getfield 56, 3) := by decide +kernel
theorem dX10_weighs_46 : decode cX10_weighs 46 = .ok (.iload 6, 2) := by decide +kernel
theorem dX10_weighs_48 : decode cX10_weighs 48 = .ok (.iconst 0, 1) := by decide +kernel
theorem dX10_weighs_49 : decode cX10_weighs 49 = .ok (.iastore, 1) := by decide +kernel
theorem dX10_weighs_50 : decode cX10_weighs 50 = .ok (.iload_n 1, 1) := by decide +kernel
theorem dX10_weighs_51 : decode cX10_weighs 51 = .ok (.iload 6, 2) := by decide +kernel
theorem dX10_weighs_53 : decode cX10_weighs 53 = .ok (.invokestatic 146, 3) := by decide +kernel
theorem dX10_weighs_56 : decode cX10_weighs 56 = .ok (.ifCond .eq 77, 3) := by decide +kernel
theorem dX10_weighs_59 : decode cX10_weighs 59 = .ok (.iload 5, 2) := by decide +kernel
theorem dX10_weighs_61 : decode cX10_weighs 61 = .ok (.ifCond .eq 8, 3) := by decide +kernel
theorem dX10_weighs_64 : decode cX10_weighs 64 = .ok (.iload_n 2, 1) := by decide +kernel
theorem dX10_weighs_65 : decode cX10_weighs 65 = .ok (.ineg, 1) := by decide +kernel
theorem dX10_weighs_66 : decode cX10_weighs 66 = .ok (.goto 4, 3) := by decide +kernel
theorem dX10_weighs_69 : decode cX10_weighs 69 = .ok (.iload_n 2, 1) := by decide +kernel
theorem dX10_weighs_70 : decode cX10_weighs 70 = .ok (.aload_n 0, 1) := by decide +kernel
theorem dX10_weighs_71 : decode cX10_weighs 71 = .ok (.getfield 53, 3) := by decide +kernel
theorem dX10_weighs_74 : decode cX10_weighs 74 = .ok (.iload_n 1, 1) := by decide +kernel
theorem dX10_weighs_75 : decode cX10_weighs 75 = .ok (.iconst 1, 1) := by decide +kernel
theorem dX10_weighs_76 : decode cX10_weighs 76 = .ok (.iload 6, 2) := by decide +kernel
theorem dX10_weighs_78 : decode cX10_weighs 78 = .ok (.ishl, 1) := by decide +kernel
theorem dX10_weighs_79 : decode cX10_weighs 79 = .ok (.iconst (-1), 1) := by decide +kernel
theorem dX10_weighs_80 : decode cX10_weighs 80 = .ok (.ixor, 1) := by decide +kernel
theorem dX10_weighs_81 : decode cX10_weighs 81 = .ok (.iand, 1) := by decide +kernel
theorem dX10_weighs_82 : decode cX10_weighs 82 = .ok (.iaload, 1) := by decide +kernel
theorem dX10_weighs_83 : decode cX10_weighs 83 = .ok (.imul, 1) := by decide +kernel
theorem dX10_weighs_84 : decode cX10_weighs 84 = .ok (.istore 7, 2) := by decide +kernel
theorem dX10_weighs_86 : decode cX10_weighs 86 = .ok (.iload 4, 2) := by decide +kernel
theorem dX10_weighs_88 : decode cX10_weighs 88 = .ok (.ifCond .eq 12, 3) := by decide +kernel
theorem dX10_weighs_91 : decode cX10_weighs 91 = .ok (.iload 7, 2) := by decide +kernel
theorem dX10_weighs_93 : decode cX10_weighs 93 = .ok (.ifCond .le 7, 3) := by decide +kernel
theorem dX10_weighs_96 : decode cX10_weighs 96 = .ok (.iconst 1, 1) := by decide +kernel
theorem dX10_weighs_97 : decode cX10_weighs 97 = .ok (.goto 4, 3) := by decide +kernel
theorem dX10_weighs_100 : decode cX10_weighs 100 = .ok (.iconst 0, 1) := by decide +kernel
theorem dX10_weighs_101 : decode cX10_weighs 101 = .ok (.istore 4, 2) := by decide +kernel
theorem dX10_weighs_103 : decode cX10_weighs 103 = .ok (.aload_n 0, 1) := by decide +kernel
theorem dX10_weighs_104 : decode cX10_weighs 104 = .ok (.getfield 56, 3) := by decide +kernel
theorem dX10_weighs_107 : decode cX10_weighs 107 = .ok (.iload 6, 2) := by decide +kernel
theorem dX10_weighs_109 : decode cX10_weighs 109 = .ok (.iload 7, 2) := by decide +kernel
theorem dX10_weighs_111 : decode cX10_weighs 111 = .ok (.iastore, 1) := by decide +kernel
theorem dX10_weighs_112 : decode cX10_weighs 112 = .ok (.iload 7, 2) := by decide +kernel
theorem dX10_weighs_114 : decode cX10_weighs 114 = .ok (.ifCond .ge 9, 3) := by decide +kernel
theorem dX10_weighs_117 : decode cX10_weighs 117 = .ok (.iload 7, 2) := by decide +kernel
theorem dX10_weighs_119 : decode cX10_weighs 119 = .ok (.ineg, 1) := by decide +kernel
theorem dX10_weighs_120 : decode cX10_weighs 120 = .ok (.goto 5, 3) := by decide +kernel
theorem dX10_weighs_123 : decode cX10_weighs 123 = .ok (.iload 7, 2) := by decide +kernel
theorem dX10_weighs_125 : decode cX10_weighs 125 = .ok (.iload_n 3, 1) := by decide +kernel
theorem dX10_weighs_126 : decode cX10_weighs 126 = .ok (.invokestatic 227, 3) := by decide +kernel
theorem dX10_weighs_129 : decode cX10_weighs 129 = .ok (.istore_n 3, 1) := by decide +kernel
theorem dX10_weighs_130 : decode cX10_weighs 130 = .ok (.iload_n 2, 1) := by decide +kernel
theorem dX10_weighs_131 : decode cX10_weighs 131 = .ok (.ineg, 1) := by decide +kernel
theorem dX10_weighs_132 : decode cX10_weighs 132 = .ok (.istore_n 2, 1) := by decide +kernel
theorem dX10_weighs_133 : decode cX10_weighs 133 = .ok (.iinc 6 1, 3) := by decide +kernel
theorem dX10_weighs_136 : decode cX10_weighs 136 = .ok (.goto (-101), 3) := by decide +kernel
theorem dX10_weighs_139 : decode cX10_weighs 139 = .ok (.iconst 0, 1) := by decide +kernel
theorem dX10_weighs_140 : decode cX10_weighs 140 = .ok (.istore 6, 2) := by decide +kernel
theorem dX10_weighs_142 : decode cX10_weighs 142 = .ok (.iload 6, 2) := by decide +kernel
theorem dX10_weighs_144 : decode cX10_weighs 144 = .ok (.bipush 8, 2) := by decide +kernel
theorem dX10_weighs_146 : decode cX10_weighs 146 = .ok (.if_icmp .ge 25, 3) := by decide +kernel
theorem dX10_weighs_149 : decode cX10_weighs 149 = .ok (.iload 4, 2) := by decide +kernel
theorem dX10_weighs_151 : decode cX10_weighs 151 = .ok (.ifCond .eq 20, 3) := by decide +kernel
theorem dX10_weighs_154 : decode cX10_weighs 154 = .ok (.aload_n 0, 1) := by decide +kernel
theorem dX10_weighs_155 : decode cX10_weighs 155 = .ok (.getfield 56, 3) := by decide +kernel
theorem dX10_weighs_158 : decode cX10_weighs 158 = .ok (.iload 6, 2) := by decide +kernel
theorem dX10_weighs_160 : decode cX10_weighs 160 = .ok (.dup2, 1) := by decide +kernel
theorem dX10_weighs_161 : decode cX10_weighs 161 = .ok (.iaload, 1) := by decide +kernel
theorem dX10_weighs_162 : decode cX10_weighs 162 = .ok (.iload_n 3, 1) := by decide +kernel
theorem dX10_weighs_163 : decode cX10_weighs 163 = .ok (.idiv, 1) := by decide +kernel
theorem dX10_weighs_164 : decode cX10_weighs 164 = .ok (.iastore, 1) := by decide +kernel
theorem dX10_weighs_165 : decode cX10_weighs 165 = .ok (.iinc 6 1, 3) := by decide +kernel
theorem dX10_weighs_168 : decode cX10_weighs 168 = .ok (.goto (-26), 3) := by decide +kernel
theorem dX10_weighs_171 : decode cX10_weighs 171 = .ok (.iload 4, 2) := by decide +kernel
theorem dX10_weighs_173 : decode cX10_weighs 173 = .ok (.ireturn, 1) := by decide +kernel
theorem dX10_gains_0 : decode cX10_gains 0 = .ok (.iconst 0, 1) := by decide +kernel
theorem dX10_gains_1 : decode cX10_gains 1 = .ok (.istore_n 2, 1) := by decide +kernel
theorem dX10_gains_2 : decode cX10_gains 2 = .ok (.iconst 0, 1) := by decide +kernel
theorem dX10_gains_3 : decode cX10_gains 3 = .ok (.istore_n 3, 1) := by decide +kernel
theorem dX10_gains_4 : decode cX10_gains 4 = .ok (.iload_n 3, 1) := by decide +kernel
theorem dX10_gains_5 : decode cX10_gains 5 = .ok (.aload_n 0, 1) := by decide +kernel
theorem dX10_gains_6 : decode cX10_gains 6 = .ok (.invokevirtual 193, 3) := by decide +kernel
theorem dX10_gains_9 : decode cX10_gains 9 = .ok (.if_icmp .ge 34, 3) := by decide +kernel
theorem dX10_gains_12 : decode cX10_gains 12 = .ok (.iload_n 2, 1) := by decide +kernel
theorem dX10_gains_13 : decode cX10_gains 13 = .ok (.iload_n 3, 1) := by decide +kernel
theorem dX10_gains_14 : decode cX10_gains 14 = .ok (.iload_n 1, 1) := by decide +kernel
theorem dX10_gains_15 : decode cX10_gains 15 = .ok (.if_icmp .ne 7, 3) := by decide +kernel
theorem dX10_gains_18 : decode cX10_gains 18 = .ok (.iconst 0, 1) := by decide +kernel
theorem dX10_gains_19 : decode cX10_gains 19 = .ok (.goto 16, 3) := by decide +kernel
theorem dX10_gains_22 : decode cX10_gains 22 = .ok (.aload_n 0, 1) := by decide +kernel
theorem dX10_gains_23 : decode cX10_gains 23 = .ok (.iload_n 1, 1) := by decide +kernel
theorem dX10_gains_24 : decode cX10_gains 24 = .ok (.iload_n 3, 1) := by decide +kernel
theorem dX10_gains_25 : decode cX10_gains 25 = .ok (.invokevirtual 224, 3) := by decide +kernel
theorem dX10_gains_28 : decode cX10_gains 28 = .ok (.aload_n 0, 1) := by decide +kernel
theorem dX10_gains_29 : decode cX10_gains 29 = .ok (.getfield 56, 3) := by decide +kernel
theorem dX10_gains_32 : decode cX10_gains 32 = .ok (.iload_n 3, 1) := by decide +kernel
theorem dX10_gains_33 : decode cX10_gains 33 = .ok (.iaload, 1) := by decide +kernel
theorem dX10_gains_34 : decode cX10_gains 34 = .ok (.imul, 1) := by decide +kernel
theorem dX10_gains_35 : decode cX10_gains 35 = .ok (.iadd, 1) := by decide +kernel
theorem dX10_gains_36 : decode cX10_gains 36 = .ok (.istore_n 2, 1) := by decide +kernel
theorem dX10_gains_37 : decode cX10_gains 37 = .ok (.iinc 3 1, 3) := by decide +kernel
theorem dX10_gains_40 : decode cX10_gains 40 = .ok (.goto (-36), 3) := by decide +kernel
theorem dX10_gains_43 : decode cX10_gains 43 = .ok (.iload_n 2, 1) := by decide +kernel
theorem dX10_gains_44 : decode cX10_gains 44 = .ok (.ireturn, 1) := by decide +kernel
theorem dX10_nobodyGains_0 : decode cX10_nobodyGains 0 = .ok (.iconst 1, 1) := by decide +kernel
theorem dX10_nobodyGains_1 : decode cX10_nobodyGains 1 = .ok (.istore_n 2, 1) := by decide +kernel
theorem dX10_nobodyGains_2 : decode cX10_nobodyGains 2 = .ok (.iconst 0, 1) := by decide +kernel
theorem dX10_nobodyGains_3 : decode cX10_nobodyGains 3 = .ok (.istore_n 3, 1) := by decide +kernel
theorem dX10_nobodyGains_4 : decode cX10_nobodyGains 4 = .ok (.iload_n 3, 1) := by decide +kernel
theorem dX10_nobodyGains_5 : decode cX10_nobodyGains 5 = .ok (.aload_n 0, 1) := by decide +kernel
theorem dX10_nobodyGains_6 : decode cX10_nobodyGains 6 = .ok (.invokevirtual 193, 3) := by decide +kernel
theorem dX10_nobodyGains_9 : decode cX10_nobodyGains 9 = .ok (.if_icmp .ge 35, 3) := by decide +kernel
theorem dX10_nobodyGains_12 : decode cX10_nobodyGains 12 = .ok (.iload_n 2, 1) := by decide +kernel
theorem dX10_nobodyGains_13 : decode cX10_nobodyGains 13 = .ok (.ifCond .eq 23, 3) := by decide +kernel
theorem dX10_nobodyGains_16 : decode cX10_nobodyGains 16 = .ok (.iload_n 1, 1) := by decide +kernel
theorem dX10_nobodyGains_17 : decode cX10_nobodyGains 17 = .ok (.iload_n 3, 1) := by decide +kernel
theorem dX10_nobodyGains_18 : decode cX10_nobodyGains 18 = .ok (.invokestatic 146, 3) := by decide +kernel
theorem dX10_nobodyGains_21 : decode cX10_nobodyGains 21 = .ok (.ifCond .eq 11, 3) := by decide +kernel
theorem dX10_nobodyGains_24 : decode cX10_nobodyGains 24 = .ok (.aload_n 0, 1) := by decide +kernel
theorem dX10_nobodyGains_25 : decode cX10_nobodyGains 25 = .ok (.iload_n 3, 1) := by decide +kernel
theorem dX10_nobodyGains_26 : decode cX10_nobodyGains 26 = .ok (.invokevirtual 230, 3) := by decide +kernel
theorem dX10_nobodyGains_29 : decode cX10_nobodyGains 29 = .ok (.ifCond .gt 7, 3) := by decide +kernel
theorem dX10_nobodyGains_32 : decode cX10_nobodyGains 32 = .ok (.iconst 1, 1) := by decide +kernel
theorem dX10_nobodyGains_33 : decode cX10_nobodyGains 33 = .ok (.goto 4, 3) := by decide +kernel
theorem dX10_nobodyGains_36 : decode cX10_nobodyGains 36 = .ok (.iconst 0, 1) := by decide +kernel
theorem dX10_nobodyGains_37 : decode cX10_nobodyGains 37 = .ok (.istore_n 2, 1) := by decide +kernel
theorem dX10_nobodyGains_38 : decode cX10_nobodyGains 38 = .ok (.iinc 3 1, 3) := by decide +kernel
theorem dX10_nobodyGains_41 : decode cX10_nobodyGains 41 = .ok (.goto (-37), 3) := by decide +kernel
theorem dX10_nobodyGains_44 : decode cX10_nobodyGains 44 = .ok (.iload_n 2, 1) := by decide +kernel
theorem dX10_nobodyGains_45 : decode cX10_nobodyGains 45 = .ok (.ireturn, 1) := by decide +kernel
theorem dX10_balanced_0 : decode cX10_balanced 0 = .ok (.aload_n 0, 1) := by decide +kernel
theorem dX10_balanced_1 : decode cX10_balanced 1 = .ok (.invokevirtual 233, 3) := by decide +kernel
theorem dX10_balanced_4 : decode cX10_balanced 4 = .ok (.iconst 1, 1) := by decide +kernel
theorem dX10_balanced_5 : decode cX10_balanced 5 = .ok (.istore_n 2, 1) := by decide +kernel
theorem dX10_balanced_6 : decode cX10_balanced 6 = .ok (.iload_n 2, 1) := by decide +kernel
theorem dX10_balanced_7 : decode cX10_balanced 7 = .ok (.aload_n 0, 1) := by decide +kernel
theorem dX10_balanced_8 : decode cX10_balanced 8 = .ok (.invokevirtual 101, 3) := by decide +kernel
theorem dX10_balanced_11 : decode cX10_balanced 11 = .ok (.if_icmp .gt 45, 3) := by decide +kernel
theorem dX10_balanced_14 : decode cX10_balanced 14 = .ok (.iload_n 2, 1) := by decide +kernel
theorem dX10_balanced_15 : decode cX10_balanced 15 = .ok (.iload_n 1, 1) := by decide +kernel
theorem dX10_balanced_16 : decode cX10_balanced 16 = .ok (.invokestatic 105, 3) := by decide +kernel
theorem dX10_balanced_19 : decode cX10_balanced 19 = .ok (.ifCond .eq 31, 3) := by decide +kernel
theorem dX10_balanced_22 : decode cX10_balanced 22 = .ok (.iload_n 2, 1) := by decide +kernel
theorem dX10_balanced_23 : decode cX10_balanced 23 = .ok (.invokestatic 200, 3) := by decide +kernel
theorem dX10_balanced_26 : decode cX10_balanced 26 = .ok (.iconst 2, 1) := by decide +kernel
theorem dX10_balanced_27 : decode cX10_balanced 27 = .ok (.irem, 1) := by decide +kernel
theorem dX10_balanced_28 : decode cX10_balanced 28 = .ok (.iconst 1, 1) := by decide +kernel
theorem dX10_balanced_29 : decode cX10_balanced 29 = .ok (.if_icmp .ne 21, 3) := by decide +kernel
theorem dX10_balanced_32 : decode cX10_balanced 32 = .ok (.aload_n 0, 1) := by decide +kernel
theorem dX10_balanced_33 : decode cX10_balanced 33 = .ok (.iload_n 2, 1) := by decide +kernel
theorem dX10_balanced_34 : decode cX10_balanced 34 = .ok (.invokevirtual 236, 3) := by decide +kernel
theorem dX10_balanced_37 : decode cX10_balanced 37 = .ok (.ifCond .eq 13, 3) := by decide +kernel
theorem dX10_balanced_40 : decode cX10_balanced 40 = .ok (.aload_n 0, 1) := by decide +kernel
theorem dX10_balanced_41 : decode cX10_balanced 41 = .ok (.iload_n 1, 1) := by decide +kernel
theorem dX10_balanced_42 : decode cX10_balanced 42 = .ok (.invokevirtual 239, 3) := by decide +kernel
theorem dX10_balanced_45 : decode cX10_balanced 45 = .ok (.ifCond .eq 5, 3) := by decide +kernel
theorem dX10_balanced_48 : decode cX10_balanced 48 = .ok (.iload_n 2, 1) := by decide +kernel
theorem dX10_balanced_49 : decode cX10_balanced 49 = .ok (.ireturn, 1) := by decide +kernel
theorem dX10_balanced_50 : decode cX10_balanced 50 = .ok (.iinc 2 1, 3) := by decide +kernel
theorem dX10_balanced_53 : decode cX10_balanced 53 = .ok (.goto (-47), 3) := by decide +kernel
theorem dX10_balanced_56 : decode cX10_balanced 56 = .ok (.iconst 0, 1) := by decide +kernel
theorem dX10_balanced_57 : decode cX10_balanced 57 = .ok (.ireturn, 1) := by decide +kernel
theorem dX10_closed_0 : decode cX10_closed 0 = .ok (.iconst 1, 1) := by decide +kernel
theorem dX10_closed_1 : decode cX10_closed 1 = .ok (.iload_n 1, 1) := by decide +kernel
theorem dX10_closed_2 : decode cX10_closed 2 = .ok (.ishl, 1) := by decide +kernel
theorem dX10_closed_3 : decode cX10_closed 3 = .ok (.istore_n 3, 1) := by decide +kernel
theorem dX10_closed_4 : decode cX10_closed 4 = .ok (.iconst 0, 1) := by decide +kernel
theorem dX10_closed_5 : decode cX10_closed 5 = .ok (.istore 4, 2) := by decide +kernel
theorem dX10_closed_7 : decode cX10_closed 7 = .ok (.iload 4, 2) := by decide +kernel
theorem dX10_closed_9 : decode cX10_closed 9 = .ok (.iload_n 3, 1) := by decide +kernel
theorem dX10_closed_10 : decode cX10_closed 10 = .ok (.if_icmp .eq 57, 3) := by decide +kernel
theorem dX10_closed_13 : decode cX10_closed 13 = .ok (.iload_n 3, 1) := by decide +kernel
theorem dX10_closed_14 : decode cX10_closed 14 = .ok (.istore 4, 2) := by decide +kernel
theorem dX10_closed_16 : decode cX10_closed 16 = .ok (.iconst 0, 1) := by decide +kernel
theorem dX10_closed_17 : decode cX10_closed 17 = .ok (.istore 5, 2) := by decide +kernel
theorem dX10_closed_19 : decode cX10_closed 19 = .ok (.iload 5, 2) := by decide +kernel
theorem dX10_closed_21 : decode cX10_closed 21 = .ok (.aload_n 0, 1) := by decide +kernel
theorem dX10_closed_22 : decode cX10_closed 22 = .ok (.invokevirtual 193, 3) := by decide +kernel
theorem dX10_closed_25 : decode cX10_closed 25 = .ok (.if_icmp .ge 39, 3) := by decide +kernel
theorem dX10_closed_28 : decode cX10_closed 28 = .ok (.iload_n 3, 1) := by decide +kernel
theorem dX10_closed_29 : decode cX10_closed 29 = .ok (.iload 4, 2) := by decide +kernel
theorem dX10_closed_31 : decode cX10_closed 31 = .ok (.iload 5, 2) := by decide +kernel
theorem dX10_closed_33 : decode cX10_closed 33 = .ok (.invokestatic 146, 3) := by decide +kernel
theorem dX10_closed_36 : decode cX10_closed 36 = .ok (.ifCond .eq 19, 3) := by decide +kernel
theorem dX10_closed_39 : decode cX10_closed 39 = .ok (.aload_n 0, 1) := by decide +kernel
theorem dX10_closed_40 : decode cX10_closed 40 = .ok (.getfield 59, 3) := by decide +kernel
theorem dX10_closed_43 : decode cX10_closed 43 = .ok (.aload_n 0, 1) := by decide +kernel
theorem dX10_closed_44 : decode cX10_closed 44 = .ok (.iload 5, 2) := by decide +kernel
theorem dX10_closed_46 : decode cX10_closed 46 = .ok (.invokevirtual 177, 3) := by decide +kernel
theorem dX10_closed_49 : decode cX10_closed 49 = .ok (.iload_n 2, 1) := by decide +kernel
theorem dX10_closed_50 : decode cX10_closed 50 = .ok (.iand, 1) := by decide +kernel
theorem dX10_closed_51 : decode cX10_closed 51 = .ok (.iaload, 1) := by decide +kernel
theorem dX10_closed_52 : decode cX10_closed 52 = .ok (.goto 4, 3) := by decide +kernel
theorem dX10_closed_55 : decode cX10_closed 55 = .ok (.iconst 0, 1) := by decide +kernel
theorem dX10_closed_56 : decode cX10_closed 56 = .ok (.ior, 1) := by decide +kernel
theorem dX10_closed_57 : decode cX10_closed 57 = .ok (.istore_n 3, 1) := by decide +kernel
theorem dX10_closed_58 : decode cX10_closed 58 = .ok (.iinc 5 1, 3) := by decide +kernel
theorem dX10_closed_61 : decode cX10_closed 61 = .ok (.goto (-42), 3) := by decide +kernel
theorem dX10_closed_64 : decode cX10_closed 64 = .ok (.goto (-57), 3) := by decide +kernel
theorem dX10_closed_67 : decode cX10_closed 67 = .ok (.iload_n 3, 1) := by decide +kernel
theorem dX10_closed_68 : decode cX10_closed 68 = .ok (.ireturn, 1) := by decide +kernel
theorem dX10_layKeeping_0 : decode cX10_layKeeping 0 = .ok (.aload_n 0, 1) := by decide +kernel
theorem dX10_layKeeping_1 : decode cX10_layKeeping 1 = .ok (.getfield 59, 3) := by decide +kernel
theorem dX10_layKeeping_4 : decode cX10_layKeeping 4 = .ok (.iconst 0, 1) := by decide +kernel
theorem dX10_layKeeping_5 : decode cX10_layKeeping 5 = .ok (.iconst 0, 1) := by decide +kernel
theorem dX10_layKeeping_6 : decode cX10_layKeeping 6 = .ok (.iastore, 1) := by decide +kernel
theorem dX10_layKeeping_7 : decode cX10_layKeeping 7 = .ok (.iconst 1, 1) := by decide +kernel
theorem dX10_layKeeping_8 : decode cX10_layKeeping 8 = .ok (.istore_n 1, 1) := by decide +kernel
theorem dX10_layKeeping_9 : decode cX10_layKeeping 9 = .ok (.iload_n 1, 1) := by decide +kernel
theorem dX10_layKeeping_10 : decode cX10_layKeeping 10 = .ok (.aload_n 0, 1) := by decide +kernel
theorem dX10_layKeeping_11 : decode cX10_layKeeping 11 = .ok (.invokevirtual 101, 3) := by decide +kernel
theorem dX10_layKeeping_14 : decode cX10_layKeeping 14 = .ok (.if_icmp .gt 155, 3) := by decide +kernel
theorem dX10_layKeeping_17 : decode cX10_layKeeping 17 = .ok (.iconst 0, 1) := by decide +kernel
theorem dX10_layKeeping_18 : decode cX10_layKeeping 18 = .ok (.istore_n 2, 1) := by decide +kernel
theorem dX10_layKeeping_19 : decode cX10_layKeeping 19 = .ok (.iload_n 2, 1) := by decide +kernel
theorem dX10_layKeeping_20 : decode cX10_layKeeping 20 = .ok (.aload_n 0, 1) := by decide +kernel
theorem dX10_layKeeping_21 : decode cX10_layKeeping 21 = .ok (.invokevirtual 193, 3) := by decide +kernel
theorem dX10_layKeeping_24 : decode cX10_layKeeping 24 = .ok (.if_icmp .ge 33, 3) := by decide +kernel
theorem dX10_layKeeping_27 : decode cX10_layKeeping 27 = .ok (.aload_n 0, 1) := by decide +kernel
theorem dX10_layKeeping_28 : decode cX10_layKeeping 28 = .ok (.getfield 62, 3) := by decide +kernel
theorem dX10_layKeeping_31 : decode cX10_layKeeping 31 = .ok (.iload_n 2, 1) := by decide +kernel
theorem dX10_layKeeping_32 : decode cX10_layKeeping 32 = .ok (.iload_n 1, 1) := by decide +kernel
theorem dX10_layKeeping_33 : decode cX10_layKeeping 33 = .ok (.iload_n 2, 1) := by decide +kernel
theorem dX10_layKeeping_34 : decode cX10_layKeeping 34 = .ok (.invokestatic 146, 3) := by decide +kernel
theorem dX10_layKeeping_37 : decode cX10_layKeeping 37 = .ok (.ifCond .eq 12, 3) := by decide +kernel
theorem dX10_layKeeping_40 : decode cX10_layKeeping 40 = .ok (.aload_n 0, 1) := by decide +kernel
theorem dX10_layKeeping_41 : decode cX10_layKeeping 41 = .ok (.iload_n 2, 1) := by decide +kernel
theorem dX10_layKeeping_42 : decode cX10_layKeeping 42 = .ok (.iload_n 1, 1) := by decide +kernel
theorem dX10_layKeeping_43 : decode cX10_layKeeping 43 = .ok (.invokevirtual 242, 3) := by decide +kernel
theorem dX10_layKeeping_46 : decode cX10_layKeeping 46 = .ok (.goto 4, 3) := by decide +kernel
theorem dX10_layKeeping_49 : decode cX10_layKeeping 49 = .ok (.iconst 0, 1) := by decide +kernel
theorem dX10_layKeeping_50 : decode cX10_layKeeping 50 = .ok (.iastore, 1) := by decide +kernel
theorem dX10_layKeeping_51 : decode cX10_layKeeping 51 = .ok (.iinc 2 1, 3) := by decide +kernel
theorem dX10_layKeeping_54 : decode cX10_layKeeping 54 = .ok (.goto (-35), 3) := by decide +kernel
theorem dX10_layKeeping_57 : decode cX10_layKeeping 57 = .ok (.iconst 0, 1) := by decide +kernel
theorem dX10_layKeeping_58 : decode cX10_layKeeping 58 = .ok (.istore_n 2, 1) := by decide +kernel
theorem dX10_layKeeping_59 : decode cX10_layKeeping 59 = .ok (.iconst 0, 1) := by decide +kernel
theorem dX10_layKeeping_60 : decode cX10_layKeeping 60 = .ok (.istore_n 3, 1) := by decide +kernel
theorem dX10_layKeeping_61 : decode cX10_layKeeping 61 = .ok (.iload_n 3, 1) := by decide +kernel
theorem dX10_layKeeping_62 : decode cX10_layKeeping 62 = .ok (.aload_n 0, 1) := by decide +kernel
theorem dX10_layKeeping_63 : decode cX10_layKeeping 63 = .ok (.invokevirtual 193, 3) := by decide +kernel
theorem dX10_layKeeping_66 : decode cX10_layKeeping 66 = .ok (.if_icmp .ge 90, 3) := by decide +kernel
theorem dX10_layKeeping_69 : decode cX10_layKeeping 69 = .ok (.iconst 1, 1) := by decide +kernel
theorem dX10_layKeeping_70 : decode cX10_layKeeping 70 = .ok (.istore 4, 2) := by decide +kernel
theorem dX10_layKeeping_72 : decode cX10_layKeeping 72 = .ok (.iconst 0, 1) := by decide +kernel
theorem dX10_layKeeping_73 : decode cX10_layKeeping 73 = .ok (.istore 5, 2) := by decide +kernel
theorem dX10_layKeeping_75 : decode cX10_layKeeping 75 = .ok (.iload 5, 2) := by decide +kernel
theorem dX10_layKeeping_77 : decode cX10_layKeeping 77 = .ok (.aload_n 0, 1) := by decide +kernel
theorem dX10_layKeeping_78 : decode cX10_layKeeping 78 = .ok (.invokevirtual 193, 3) := by decide +kernel
theorem dX10_layKeeping_81 : decode cX10_layKeeping 81 = .ok (.if_icmp .ge 51, 3) := by decide +kernel
theorem dX10_layKeeping_84 : decode cX10_layKeeping 84 = .ok (.iload 4, 2) := by decide +kernel
theorem dX10_layKeeping_86 : decode cX10_layKeeping 86 = .ok (.ifCond .eq 37, 3) := by decide +kernel
theorem dX10_layKeeping_89 : decode cX10_layKeeping 89 = .ok (.aload_n 0, 1) := by decide +kernel
theorem dX10_layKeeping_90 : decode cX10_layKeeping 90 = .ok (.getfield 62, 3) := by decide +kernel
theorem dX10_layKeeping_93 : decode cX10_layKeeping 93 = .ok (.iload_n 3, 1) := by decide +kernel
theorem dX10_layKeeping_94 : decode cX10_layKeeping 94 = .ok (.iaload, 1) := by decide +kernel
theorem dX10_layKeeping_95 : decode cX10_layKeeping 95 = .ok (.iload 5, 2) := by decide +kernel
theorem dX10_layKeeping_97 : decode cX10_layKeeping 97 = .ok (.invokestatic 146, 3) := by decide +kernel
theorem dX10_layKeeping_100 : decode cX10_layKeeping 100 = .ok (.ifCond .eq 19, 3) := by decide +kernel
theorem dX10_layKeeping_103 : decode cX10_layKeeping 103 = .ok (.aload_n 0, 1) := by decide +kernel
theorem dX10_layKeeping_104 : decode cX10_layKeeping 104 = .ok (.getfield 62, 3) := by decide +kernel
theorem dX10_layKeeping_107 : decode cX10_layKeeping 107 = .ok (.iload 5, 2) := by decide +kernel
theorem dX10_layKeeping_109 : decode cX10_layKeeping 109 = .ok (.iaload, 1) := by decide +kernel
theorem dX10_layKeeping_110 : decode cX10_layKeeping 110 = .ok (.aload_n 0, 1) := by decide +kernel
theorem dX10_layKeeping_111 : decode cX10_layKeeping 111 = .ok (.getfield 62, 3) := by decide +kernel
theorem dX10_layKeeping_114 : decode cX10_layKeeping 114 = .ok (.iload_n 3, 1) := by decide +kernel
theorem dX10_layKeeping_115 : decode cX10_layKeeping 115 = .ok (.iaload, 1) := by decide +kernel
theorem dX10_layKeeping_116 : decode cX10_layKeeping 116 = .ok (.if_icmp .ne 7, 3) := by decide +kernel
theorem dX10_layKeeping_119 : decode cX10_layKeeping 119 = .ok (.iconst 1, 1) := by decide +kernel
theorem dX10_layKeeping_120 : decode cX10_layKeeping 120 = .ok (.goto 4, 3) := by decide +kernel
theorem dX10_layKeeping_123 : decode cX10_layKeeping 123 = .ok (.iconst 0, 1) := by decide +kernel
theorem dX10_layKeeping_124 : decode cX10_layKeeping 124 = .ok (.istore 4, 2) := by decide +kernel
theorem dX10_layKeeping_126 : decode cX10_layKeeping 126 = .ok (.iinc 5 1, 3) := by decide +kernel
theorem dX10_layKeeping_129 : decode cX10_layKeeping 129 = .ok (.goto (-54), 3) := by decide +kernel
theorem dX10_layKeeping_132 : decode cX10_layKeeping 132 = .ok (.iload_n 2, 1) := by decide +kernel
theorem dX10_layKeeping_133 : decode cX10_layKeeping 133 = .ok (.iload 4, 2) := by decide +kernel
theorem dX10_layKeeping_135 : decode cX10_layKeeping 135 = .ok (.ifCond .eq 12, 3) := by decide +kernel
theorem dX10_layKeeping_138 : decode cX10_layKeeping 138 = .ok (.aload_n 0, 1) := by decide +kernel
theorem dX10_layKeeping_139 : decode cX10_layKeeping 139 = .ok (.getfield 62, 3) := by decide +kernel
theorem dX10_layKeeping_142 : decode cX10_layKeeping 142 = .ok (.iload_n 3, 1) := by decide +kernel
theorem dX10_layKeeping_143 : decode cX10_layKeeping 143 = .ok (.iaload, 1) := by decide +kernel
theorem dX10_layKeeping_144 : decode cX10_layKeeping 144 = .ok (.goto 4, 3) := by decide +kernel
theorem dX10_layKeeping_147 : decode cX10_layKeeping 147 = .ok (.iconst 0, 1) := by decide +kernel
theorem dX10_layKeeping_148 : decode cX10_layKeeping 148 = .ok (.ior, 1) := by decide +kernel
theorem dX10_layKeeping_149 : decode cX10_layKeeping 149 = .ok (.istore_n 2, 1) := by decide +kernel
theorem dX10_layKeeping_150 : decode cX10_layKeeping 150 = .ok (.iinc 3 1, 3) := by decide +kernel
theorem dX10_layKeeping_153 : decode cX10_layKeeping 153 = .ok (.goto (-92), 3) := by decide +kernel
theorem dX10_layKeeping_156 : decode cX10_layKeeping 156 = .ok (.aload_n 0, 1) := by decide +kernel
theorem dX10_layKeeping_157 : decode cX10_layKeeping 157 = .ok (.getfield 59, 3) := by decide +kernel
theorem dX10_layKeeping_160 : decode cX10_layKeeping 160 = .ok (.iload_n 1, 1) := by decide +kernel
theorem dX10_layKeeping_161 : decode cX10_layKeeping 161 = .ok (.iload_n 2, 1) := by decide +kernel
theorem dX10_layKeeping_162 : decode cX10_layKeeping 162 = .ok (.iastore, 1) := by decide +kernel
theorem dX10_layKeeping_163 : decode cX10_layKeeping 163 = .ok (.iinc 1 1, 3) := by decide +kernel
theorem dX10_layKeeping_166 : decode cX10_layKeeping 166 = .ok (.goto (-157), 3) := by decide +kernel
theorem dX10_layKeeping_169 : decode cX10_layKeeping 169 = .ok (.return_, 1) := by decide +kernel
theorem dX10_isKeeping_0 : decode cX10_isKeeping 0 = .ok (.iload_n 1, 1) := by decide +kernel
theorem dX10_isKeeping_1 : decode cX10_isKeeping 1 = .ok (.ifCond .eq 7, 3) := by decide +kernel
theorem dX10_isKeeping_4 : decode cX10_isKeeping 4 = .ok (.iconst 1, 1) := by decide +kernel
theorem dX10_isKeeping_5 : decode cX10_isKeeping 5 = .ok (.goto 4, 3) := by decide +kernel
theorem dX10_isKeeping_8 : decode cX10_isKeeping 8 = .ok (.iconst 0, 1) := by decide +kernel
theorem dX10_isKeeping_9 : decode cX10_isKeeping 9 = .ok (.istore_n 2, 1) := by decide +kernel
theorem dX10_isKeeping_10 : decode cX10_isKeeping 10 = .ok (.iconst 0, 1) := by decide +kernel
theorem dX10_isKeeping_11 : decode cX10_isKeeping 11 = .ok (.istore_n 3, 1) := by decide +kernel
theorem dX10_isKeeping_12 : decode cX10_isKeeping 12 = .ok (.iload_n 3, 1) := by decide +kernel
theorem dX10_isKeeping_13 : decode cX10_isKeeping 13 = .ok (.aload_n 0, 1) := by decide +kernel
theorem dX10_isKeeping_14 : decode cX10_isKeeping 14 = .ok (.invokevirtual 193, 3) := by decide +kernel
theorem dX10_isKeeping_17 : decode cX10_isKeeping 17 = .ok (.if_icmp .ge 44, 3) := by decide +kernel
theorem dX10_isKeeping_20 : decode cX10_isKeeping 20 = .ok (.iload_n 2, 1) := by decide +kernel
theorem dX10_isKeeping_21 : decode cX10_isKeeping 21 = .ok (.ifCond .eq 32, 3) := by decide +kernel
theorem dX10_isKeeping_24 : decode cX10_isKeeping 24 = .ok (.iload_n 1, 1) := by decide +kernel
theorem dX10_isKeeping_25 : decode cX10_isKeeping 25 = .ok (.iload_n 3, 1) := by decide +kernel
theorem dX10_isKeeping_26 : decode cX10_isKeeping 26 = .ok (.invokestatic 146, 3) := by decide +kernel
theorem dX10_isKeeping_29 : decode cX10_isKeeping 29 = .ok (.ifCond .eq 20, 3) := by decide +kernel
theorem dX10_isKeeping_32 : decode cX10_isKeeping 32 = .ok (.aload_n 0, 1) := by decide +kernel
theorem dX10_isKeeping_33 : decode cX10_isKeeping 33 = .ok (.getfield 59, 3) := by decide +kernel
theorem dX10_isKeeping_36 : decode cX10_isKeeping 36 = .ok (.aload_n 0, 1) := by decide +kernel
theorem dX10_isKeeping_37 : decode cX10_isKeeping 37 = .ok (.iload_n 3, 1) := by decide +kernel
theorem dX10_isKeeping_38 : decode cX10_isKeeping 38 = .ok (.invokevirtual 177, 3) := by decide +kernel
theorem dX10_isKeeping_41 : decode cX10_isKeeping 41 = .ok (.iaload, 1) := by decide +kernel
theorem dX10_isKeeping_42 : decode cX10_isKeeping 42 = .ok (.iload_n 1, 1) := by decide +kernel
theorem dX10_isKeeping_43 : decode cX10_isKeeping 43 = .ok (.invokestatic 105, 3) := by decide +kernel
theorem dX10_isKeeping_46 : decode cX10_isKeeping 46 = .ok (.ifCond .eq 7, 3) := by decide +kernel
theorem dX10_isKeeping_49 : decode cX10_isKeeping 49 = .ok (.iconst 1, 1) := by decide +kernel
theorem dX10_isKeeping_50 : decode cX10_isKeeping 50 = .ok (.goto 4, 3) := by decide +kernel
theorem dX10_isKeeping_53 : decode cX10_isKeeping 53 = .ok (.iconst 0, 1) := by decide +kernel
theorem dX10_isKeeping_54 : decode cX10_isKeeping 54 = .ok (.istore_n 2, 1) := by decide +kernel
theorem dX10_isKeeping_55 : decode cX10_isKeeping 55 = .ok (.iinc 3 1, 3) := by decide +kernel
theorem dX10_isKeeping_58 : decode cX10_isKeeping 58 = .ok (.goto (-46), 3) := by decide +kernel
theorem dX10_isKeeping_61 : decode cX10_isKeeping 61 = .ok (.iload_n 2, 1) := by decide +kernel
theorem dX10_isKeeping_62 : decode cX10_isKeeping 62 = .ok (.ireturn, 1) := by decide +kernel
theorem dX10_layCups_0 : decode cX10_layCups 0 = .ok (.iconst 1, 1) := by decide +kernel
theorem dX10_layCups_1 : decode cX10_layCups 1 = .ok (.istore_n 1, 1) := by decide +kernel
theorem dX10_layCups_2 : decode cX10_layCups 2 = .ok (.iload_n 1, 1) := by decide +kernel
theorem dX10_layCups_3 : decode cX10_layCups 3 = .ok (.aload_n 0, 1) := by decide +kernel
theorem dX10_layCups_4 : decode cX10_layCups 4 = .ok (.invokevirtual 101, 3) := by decide +kernel
theorem dX10_layCups_7 : decode cX10_layCups 7 = .ok (.if_icmp .gt 110, 3) := by decide +kernel
theorem dX10_layCups_10 : decode cX10_layCups 10 = .ok (.iload_n 1, 1) := by decide +kernel
theorem dX10_layCups_11 : decode cX10_layCups 11 = .ok (.invokestatic 200, 3) := by decide +kernel
theorem dX10_layCups_14 : decode cX10_layCups 14 = .ok (.istore_n 2, 1) := by decide +kernel
theorem dX10_layCups_15 : decode cX10_layCups 15 = .ok (.iconst 0, 1) := by decide +kernel
theorem dX10_layCups_16 : decode cX10_layCups 16 = .ok (.istore_n 3, 1) := by decide +kernel
theorem dX10_layCups_17 : decode cX10_layCups 17 = .ok (.iload_n 3, 1) := by decide +kernel
theorem dX10_layCups_18 : decode cX10_layCups 18 = .ok (.bipush 8, 2) := by decide +kernel
theorem dX10_layCups_20 : decode cX10_layCups 20 = .ok (.if_icmp .ge 38, 3) := by decide +kernel
theorem dX10_layCups_23 : decode cX10_layCups 23 = .ok (.aload_n 0, 1) := by decide +kernel
theorem dX10_layCups_24 : decode cX10_layCups 24 = .ok (.getfield 65, 3) := by decide +kernel
theorem dX10_layCups_27 : decode cX10_layCups 27 = .ok (.bipush 8, 2) := by decide +kernel
theorem dX10_layCups_29 : decode cX10_layCups 29 = .ok (.iload_n 1, 1) := by decide +kernel
theorem dX10_layCups_30 : decode cX10_layCups 30 = .ok (.imul, 1) := by decide +kernel
theorem dX10_layCups_31 : decode cX10_layCups 31 = .ok (.iload_n 3, 1) := by decide +kernel
theorem dX10_layCups_32 : decode cX10_layCups 32 = .ok (.iadd, 1) := by decide +kernel
theorem dX10_layCups_33 : decode cX10_layCups 33 = .ok (.iload_n 2, 1) := by decide +kernel
theorem dX10_layCups_34 : decode cX10_layCups 34 = .ok (.iconst 1, 1) := by decide +kernel
theorem dX10_layCups_35 : decode cX10_layCups 35 = .ok (.if_icmp .ne 15, 3) := by decide +kernel
theorem dX10_layCups_38 : decode cX10_layCups 38 = .ok (.iload_n 1, 1) := by decide +kernel
theorem dX10_layCups_39 : decode cX10_layCups 39 = .ok (.iload_n 3, 1) := by decide +kernel
theorem dX10_layCups_40 : decode cX10_layCups 40 = .ok (.invokestatic 146, 3) := by decide +kernel
theorem dX10_layCups_43 : decode cX10_layCups 43 = .ok (.ifCond .eq 7, 3) := by decide +kernel
theorem dX10_layCups_46 : decode cX10_layCups 46 = .ok (.iconst 1, 1) := by decide +kernel
theorem dX10_layCups_47 : decode cX10_layCups 47 = .ok (.goto 4, 3) := by decide +kernel
theorem dX10_layCups_50 : decode cX10_layCups 50 = .ok (.iconst 0, 1) := by decide +kernel
theorem dX10_layCups_51 : decode cX10_layCups 51 = .ok (.iastore, 1) := by decide +kernel
theorem dX10_layCups_52 : decode cX10_layCups 52 = .ok (.iinc 3 1, 3) := by decide +kernel
theorem dX10_layCups_55 : decode cX10_layCups 55 = .ok (.goto (-38), 3) := by decide +kernel
theorem dX10_layCups_58 : decode cX10_layCups 58 = .ok (.iconst 1, 1) := by decide +kernel
theorem dX10_layCups_59 : decode cX10_layCups 59 = .ok (.istore_n 3, 1) := by decide +kernel
theorem dX10_layCups_60 : decode cX10_layCups 60 = .ok (.iload_n 3, 1) := by decide +kernel
theorem dX10_layCups_61 : decode cX10_layCups 61 = .ok (.iload_n 1, 1) := by decide +kernel
theorem dX10_layCups_62 : decode cX10_layCups 62 = .ok (.if_icmp .ge 49, 3) := by decide +kernel
theorem dX10_layCups_65 : decode cX10_layCups 65 = .ok (.iload_n 2, 1) := by decide +kernel
theorem dX10_layCups_66 : decode cX10_layCups 66 = .ok (.iconst 2, 1) := by decide +kernel
theorem dX10_layCups_67 : decode cX10_layCups 67 = .ok (.if_icmp .eq 14, 3) := by decide +kernel
theorem dX10_layCups_70 : decode cX10_layCups 70 = .ok (.iload_n 2, 1) := by decide +kernel
theorem dX10_layCups_71 : decode cX10_layCups 71 = .ok (.iconst 4, 1) := by decide +kernel
theorem dX10_layCups_72 : decode cX10_layCups 72 = .ok (.if_icmp .eq 9, 3) := by decide +kernel
theorem dX10_layCups_75 : decode cX10_layCups 75 = .ok (.iload_n 2, 1) := by decide +kernel
theorem dX10_layCups_76 : decode cX10_layCups 76 = .ok (.bipush 8, 2) := by decide +kernel
theorem dX10_layCups_78 : decode cX10_layCups 78 = .ok (.if_icmp .ne 33, 3) := by decide +kernel
theorem dX10_layCups_81 : decode cX10_layCups 81 = .ok (.iload_n 3, 1) := by decide +kernel
theorem dX10_layCups_82 : decode cX10_layCups 82 = .ok (.iload_n 1, 1) := by decide +kernel
theorem dX10_layCups_83 : decode cX10_layCups 83 = .ok (.invokestatic 105, 3) := by decide +kernel
theorem dX10_layCups_86 : decode cX10_layCups 86 = .ok (.ifCond .eq 19, 3) := by decide +kernel
theorem dX10_layCups_89 : decode cX10_layCups 89 = .ok (.iconst 2, 1) := by decide +kernel
theorem dX10_layCups_90 : decode cX10_layCups 90 = .ok (.iload_n 3, 1) := by decide +kernel
theorem dX10_layCups_91 : decode cX10_layCups 91 = .ok (.invokestatic 200, 3) := by decide +kernel
theorem dX10_layCups_94 : decode cX10_layCups 94 = .ok (.imul, 1) := by decide +kernel
theorem dX10_layCups_95 : decode cX10_layCups 95 = .ok (.iload_n 2, 1) := by decide +kernel
theorem dX10_layCups_96 : decode cX10_layCups 96 = .ok (.if_icmp .ne 9, 3) := by decide +kernel
theorem dX10_layCups_99 : decode cX10_layCups 99 = .ok (.aload_n 0, 1) := by decide +kernel
theorem dX10_layCups_100 : decode cX10_layCups 100 = .ok (.iload_n 1, 1) := by decide +kernel
theorem dX10_layCups_101 : decode cX10_layCups 101 = .ok (.iload_n 3, 1) := by decide +kernel
theorem dX10_layCups_102 : decode cX10_layCups 102 = .ok (.invokevirtual 245, 3) := by decide +kernel
theorem dX10_layCups_105 : decode cX10_layCups 105 = .ok (.iinc 3 1, 3) := by decide +kernel
theorem dX10_layCups_108 : decode cX10_layCups 108 = .ok (.goto (-48), 3) := by decide +kernel
theorem dX10_layCups_111 : decode cX10_layCups 111 = .ok (.iinc 1 1, 3) := by decide +kernel
theorem dX10_layCups_114 : decode cX10_layCups 114 = .ok (.goto (-112), 3) := by decide +kernel
theorem dX10_layCups_117 : decode cX10_layCups 117 = .ok (.return_, 1) := by decide +kernel
theorem dX10_layHalves_0 : decode cX10_layHalves 0 = .ok (.iconst 0, 1) := by decide +kernel
theorem dX10_layHalves_1 : decode cX10_layHalves 1 = .ok (.istore_n 3, 1) := by decide +kernel
theorem dX10_layHalves_2 : decode cX10_layHalves 2 = .ok (.iload_n 3, 1) := by decide +kernel
theorem dX10_layHalves_3 : decode cX10_layHalves 3 = .ok (.aload_n 0, 1) := by decide +kernel
theorem dX10_layHalves_4 : decode cX10_layHalves 4 = .ok (.invokevirtual 193, 3) := by decide +kernel
theorem dX10_layHalves_7 : decode cX10_layHalves 7 = .ok (.if_icmp .ge 106, 3) := by decide +kernel
theorem dX10_layHalves_10 : decode cX10_layHalves 10 = .ok (.iconst 0, 1) := by decide +kernel
theorem dX10_layHalves_11 : decode cX10_layHalves 11 = .ok (.istore 4, 2) := by decide +kernel
theorem dX10_layHalves_13 : decode cX10_layHalves 13 = .ok (.iconst 0, 1) := by decide +kernel
theorem dX10_layHalves_14 : decode cX10_layHalves 14 = .ok (.istore 5, 2) := by decide +kernel
theorem dX10_layHalves_16 : decode cX10_layHalves 16 = .ok (.iload 5, 2) := by decide +kernel
theorem dX10_layHalves_18 : decode cX10_layHalves 18 = .ok (.aload_n 0, 1) := by decide +kernel
theorem dX10_layHalves_19 : decode cX10_layHalves 19 = .ok (.invokevirtual 193, 3) := by decide +kernel
theorem dX10_layHalves_22 : decode cX10_layHalves 22 = .ok (.if_icmp .ge 55, 3) := by decide +kernel
theorem dX10_layHalves_25 : decode cX10_layHalves 25 = .ok (.iload_n 2, 1) := by decide +kernel
theorem dX10_layHalves_26 : decode cX10_layHalves 26 = .ok (.iload_n 3, 1) := by decide +kernel
theorem dX10_layHalves_27 : decode cX10_layHalves 27 = .ok (.invokestatic 146, 3) := by decide +kernel
theorem dX10_layHalves_30 : decode cX10_layHalves 30 = .ok (.ifCond .eq 47, 3) := by decide +kernel
theorem dX10_layHalves_33 : decode cX10_layHalves 33 = .ok (.iload 4, 2) := by decide +kernel
theorem dX10_layHalves_35 : decode cX10_layHalves 35 = .ok (.aload_n 0, 1) := by decide +kernel
theorem dX10_layHalves_36 : decode cX10_layHalves 36 = .ok (.iload_n 3, 1) := by decide +kernel
theorem dX10_layHalves_37 : decode cX10_layHalves 37 = .ok (.invokevirtual 166, 3) := by decide +kernel
theorem dX10_layHalves_40 : decode cX10_layHalves 40 = .ok (.iload 5, 2) := by decide +kernel
theorem dX10_layHalves_42 : decode cX10_layHalves 42 = .ok (.invokestatic 146, 3) := by decide +kernel
theorem dX10_layHalves_45 : decode cX10_layHalves 45 = .ok (.ifCond .eq 22, 3) := by decide +kernel
theorem dX10_layHalves_48 : decode cX10_layHalves 48 = .ok (.aload_n 0, 1) := by decide +kernel
theorem dX10_layHalves_49 : decode cX10_layHalves 49 = .ok (.getfield 65, 3) := by decide +kernel
theorem dX10_layHalves_52 : decode cX10_layHalves 52 = .ok (.bipush 8, 2) := by decide +kernel
theorem dX10_layHalves_54 : decode cX10_layHalves 54 = .ok (.iload_n 1, 1) := by decide +kernel
theorem dX10_layHalves_55 : decode cX10_layHalves 55 = .ok (.iload_n 2, 1) := by decide +kernel
theorem dX10_layHalves_56 : decode cX10_layHalves 56 = .ok (.iconst (-1), 1) := by decide +kernel
theorem dX10_layHalves_57 : decode cX10_layHalves 57 = .ok (.ixor, 1) := by decide +kernel
theorem dX10_layHalves_58 : decode cX10_layHalves 58 = .ok (.iand, 1) := by decide +kernel
theorem dX10_layHalves_59 : decode cX10_layHalves 59 = .ok (.imul, 1) := by decide +kernel
theorem dX10_layHalves_60 : decode cX10_layHalves 60 = .ok (.iload 5, 2) := by decide +kernel
theorem dX10_layHalves_62 : decode cX10_layHalves 62 = .ok (.iadd, 1) := by decide +kernel
theorem dX10_layHalves_63 : decode cX10_layHalves 63 = .ok (.iaload, 1) := by decide +kernel
theorem dX10_layHalves_64 : decode cX10_layHalves 64 = .ok (.goto 4, 3) := by decide +kernel
theorem dX10_layHalves_67 : decode cX10_layHalves 67 = .ok (.iconst 0, 1) := by decide +kernel
theorem dX10_layHalves_68 : decode cX10_layHalves 68 = .ok (.iadd, 1) := by decide +kernel
theorem dX10_layHalves_69 : decode cX10_layHalves 69 = .ok (.istore 4, 2) := by decide +kernel
theorem dX10_layHalves_71 : decode cX10_layHalves 71 = .ok (.iinc 5 1, 3) := by decide +kernel
theorem dX10_layHalves_74 : decode cX10_layHalves 74 = .ok (.goto (-58), 3) := by decide +kernel
theorem dX10_layHalves_77 : decode cX10_layHalves 77 = .ok (.aload_n 0, 1) := by decide +kernel
theorem dX10_layHalves_78 : decode cX10_layHalves 78 = .ok (.getfield 65, 3) := by decide +kernel
theorem dX10_layHalves_81 : decode cX10_layHalves 81 = .ok (.bipush 8, 2) := by decide +kernel
theorem dX10_layHalves_83 : decode cX10_layHalves 83 = .ok (.iload_n 1, 1) := by decide +kernel
theorem dX10_layHalves_84 : decode cX10_layHalves 84 = .ok (.imul, 1) := by decide +kernel
theorem dX10_layHalves_85 : decode cX10_layHalves 85 = .ok (.iload_n 3, 1) := by decide +kernel
theorem dX10_layHalves_86 : decode cX10_layHalves 86 = .ok (.iadd, 1) := by decide +kernel
theorem dX10_layHalves_87 : decode cX10_layHalves 87 = .ok (.dup2, 1) := by decide +kernel
theorem dX10_layHalves_88 : decode cX10_layHalves 88 = .ok (.iaload, 1) := by decide +kernel
theorem dX10_layHalves_89 : decode cX10_layHalves 89 = .ok (.iconst 2, 1) := by decide +kernel
theorem dX10_layHalves_90 : decode cX10_layHalves 90 = .ok (.aload_n 0, 1) := by decide +kernel
theorem dX10_layHalves_91 : decode cX10_layHalves 91 = .ok (.getfield 65, 3) := by decide +kernel
theorem dX10_layHalves_94 : decode cX10_layHalves 94 = .ok (.bipush 8, 2) := by decide +kernel
theorem dX10_layHalves_96 : decode cX10_layHalves 96 = .ok (.iload_n 2, 1) := by decide +kernel
theorem dX10_layHalves_97 : decode cX10_layHalves 97 = .ok (.imul, 1) := by decide +kernel
theorem dX10_layHalves_98 : decode cX10_layHalves 98 = .ok (.iload_n 3, 1) := by decide +kernel
theorem dX10_layHalves_99 : decode cX10_layHalves 99 = .ok (.iadd, 1) := by decide +kernel
theorem dX10_layHalves_100 : decode cX10_layHalves 100 = .ok (.iaload, 1) := by decide +kernel
theorem dX10_layHalves_101 : decode cX10_layHalves 101 = .ok (.imul, 1) := by decide +kernel
theorem dX10_layHalves_102 : decode cX10_layHalves 102 = .ok (.iload 4, 2) := by decide +kernel
theorem dX10_layHalves_104 : decode cX10_layHalves 104 = .ok (.imul, 1) := by decide +kernel
theorem dX10_layHalves_105 : decode cX10_layHalves 105 = .ok (.iadd, 1) := by decide +kernel
theorem dX10_layHalves_106 : decode cX10_layHalves 106 = .ok (.iastore, 1) := by decide +kernel
theorem dX10_layHalves_107 : decode cX10_layHalves 107 = .ok (.iinc 3 1, 3) := by decide +kernel
theorem dX10_layHalves_110 : decode cX10_layHalves 110 = .ok (.goto (-108), 3) := by decide +kernel
theorem dX10_layHalves_113 : decode cX10_layHalves 113 = .ok (.return_, 1) := by decide +kernel
theorem dX10_isCup_0 : decode cX10_isCup 0 = .ok (.iload_n 0, 1) := by decide +kernel
theorem dX10_isCup_1 : decode cX10_isCup 1 = .ok (.iconst 1, 1) := by decide +kernel
theorem dX10_isCup_2 : decode cX10_isCup 2 = .ok (.if_icmp .eq 19, 3) := by decide +kernel
theorem dX10_isCup_5 : decode cX10_isCup 5 = .ok (.iload_n 0, 1) := by decide +kernel
theorem dX10_isCup_6 : decode cX10_isCup 6 = .ok (.iconst 2, 1) := by decide +kernel
theorem dX10_isCup_7 : decode cX10_isCup 7 = .ok (.if_icmp .eq 14, 3) := by decide +kernel
theorem dX10_isCup_10 : decode cX10_isCup 10 = .ok (.iload_n 0, 1) := by decide +kernel
theorem dX10_isCup_11 : decode cX10_isCup 11 = .ok (.iconst 4, 1) := by decide +kernel
theorem dX10_isCup_12 : decode cX10_isCup 12 = .ok (.if_icmp .eq 9, 3) := by decide +kernel
theorem dX10_isCup_15 : decode cX10_isCup 15 = .ok (.iload_n 0, 1) := by decide +kernel
theorem dX10_isCup_16 : decode cX10_isCup 16 = .ok (.bipush 8, 2) := by decide +kernel
theorem dX10_isCup_18 : decode cX10_isCup 18 = .ok (.if_icmp .ne 7, 3) := by decide +kernel
theorem dX10_isCup_21 : decode cX10_isCup 21 = .ok (.iconst 1, 1) := by decide +kernel
theorem dX10_isCup_22 : decode cX10_isCup 22 = .ok (.goto 4, 3) := by decide +kernel
theorem dX10_isCup_25 : decode cX10_isCup 25 = .ok (.iconst 0, 1) := by decide +kernel
theorem dX10_isCup_26 : decode cX10_isCup 26 = .ok (.ireturn, 1) := by decide +kernel
theorem dX10_cupOf_0 : decode cX10_cupOf 0 = .ok (.iload_n 1, 1) := by decide +kernel
theorem dX10_cupOf_1 : decode cX10_cupOf 1 = .ok (.invokestatic 200, 3) := by decide +kernel
theorem dX10_cupOf_4 : decode cX10_cupOf 4 = .ok (.invokestatic 248, 3) := by decide +kernel
theorem dX10_cupOf_7 : decode cX10_cupOf 7 = .ok (.ifCond .ne 5, 3) := by decide +kernel
theorem dX10_cupOf_10 : decode cX10_cupOf 10 = .ok (.iconst 0, 1) := by decide +kernel
theorem dX10_cupOf_11 : decode cX10_cupOf 11 = .ok (.ireturn, 1) := by decide +kernel
theorem dX10_cupOf_12 : decode cX10_cupOf 12 = .ok (.aload_n 0, 1) := by decide +kernel
theorem dX10_cupOf_13 : decode cX10_cupOf 13 = .ok (.invokevirtual 251, 3) := by decide +kernel
theorem dX10_cupOf_16 : decode cX10_cupOf 16 = .ok (.iconst 0, 1) := by decide +kernel
theorem dX10_cupOf_17 : decode cX10_cupOf 17 = .ok (.istore_n 2, 1) := by decide +kernel
theorem dX10_cupOf_18 : decode cX10_cupOf 18 = .ok (.iconst 0, 1) := by decide +kernel
theorem dX10_cupOf_19 : decode cX10_cupOf 19 = .ok (.istore_n 3, 1) := by decide +kernel
theorem dX10_cupOf_20 : decode cX10_cupOf 20 = .ok (.iload_n 3, 1) := by decide +kernel
theorem dX10_cupOf_21 : decode cX10_cupOf 21 = .ok (.aload_n 0, 1) := by decide +kernel
theorem dX10_cupOf_22 : decode cX10_cupOf 22 = .ok (.invokevirtual 193, 3) := by decide +kernel
theorem dX10_cupOf_25 : decode cX10_cupOf 25 = .ok (.if_icmp .ge 33, 3) := by decide +kernel
theorem dX10_cupOf_28 : decode cX10_cupOf 28 = .ok (.iload_n 2, 1) := by decide +kernel
theorem dX10_cupOf_29 : decode cX10_cupOf 29 = .ok (.aload_n 0, 1) := by decide +kernel
theorem dX10_cupOf_30 : decode cX10_cupOf 30 = .ok (.getfield 65, 3) := by decide +kernel
theorem dX10_cupOf_33 : decode cX10_cupOf 33 = .ok (.bipush 8, 2) := by decide +kernel
theorem dX10_cupOf_35 : decode cX10_cupOf 35 = .ok (.iload_n 1, 1) := by decide +kernel
theorem dX10_cupOf_36 : decode cX10_cupOf 36 = .ok (.imul, 1) := by decide +kernel
theorem dX10_cupOf_37 : decode cX10_cupOf 37 = .ok (.iload_n 3, 1) := by decide +kernel
theorem dX10_cupOf_38 : decode cX10_cupOf 38 = .ok (.iadd, 1) := by decide +kernel
theorem dX10_cupOf_39 : decode cX10_cupOf 39 = .ok (.iaload, 1) := by decide +kernel
theorem dX10_cupOf_40 : decode cX10_cupOf 40 = .ok (.ifCond .le 9, 3) := by decide +kernel
theorem dX10_cupOf_43 : decode cX10_cupOf 43 = .ok (.iconst 1, 1) := by decide +kernel
theorem dX10_cupOf_44 : decode cX10_cupOf 44 = .ok (.iload_n 3, 1) := by decide +kernel
theorem dX10_cupOf_45 : decode cX10_cupOf 45 = .ok (.ishl, 1) := by decide +kernel
theorem dX10_cupOf_46 : decode cX10_cupOf 46 = .ok (.goto 4, 3) := by decide +kernel
theorem dX10_cupOf_49 : decode cX10_cupOf 49 = .ok (.iconst 0, 1) := by decide +kernel
theorem dX10_cupOf_50 : decode cX10_cupOf 50 = .ok (.ior, 1) := by decide +kernel
theorem dX10_cupOf_51 : decode cX10_cupOf 51 = .ok (.istore_n 2, 1) := by decide +kernel
theorem dX10_cupOf_52 : decode cX10_cupOf 52 = .ok (.iinc 3 1, 3) := by decide +kernel
theorem dX10_cupOf_55 : decode cX10_cupOf 55 = .ok (.goto (-35), 3) := by decide +kernel
theorem dX10_cupOf_58 : decode cX10_cupOf 58 = .ok (.iload_n 2, 1) := by decide +kernel
theorem dX10_cupOf_59 : decode cX10_cupOf 59 = .ok (.ireturn, 1) := by decide +kernel
theorem dX10_setOf_0 : decode cX10_setOf 0 = .ok (.iload_n 2, 1) := by decide +kernel
theorem dX10_setOf_1 : decode cX10_setOf 1 = .ok (.ifCond .ne 5, 3) := by decide +kernel
theorem dX10_setOf_4 : decode cX10_setOf 4 = .ok (.iconst 0, 1) := by decide +kernel
theorem dX10_setOf_5 : decode cX10_setOf 5 = .ok (.ireturn, 1) := by decide +kernel
theorem dX10_setOf_6 : decode cX10_setOf 6 = .ok (.iload_n 1, 1) := by decide +kernel
theorem dX10_setOf_7 : decode cX10_setOf 7 = .ok (.tableswitch 108 0 8 #[49, 55, 61, 67, 73, 79, 85, 91, 97], 49) := by decide +kernel
theorem dX10_setOf_56 : decode cX10_setOf 56 = .ok (.aload_n 0, 1) := by decide +kernel
theorem dX10_setOf_57 : decode cX10_setOf 57 = .ok (.iload_n 2, 1) := by decide +kernel
theorem dX10_setOf_58 : decode cX10_setOf 58 = .ok (.invokevirtual 254, 3) := by decide +kernel
theorem dX10_setOf_61 : decode cX10_setOf 61 = .ok (.ireturn, 1) := by decide +kernel
theorem dX10_setOf_62 : decode cX10_setOf 62 = .ok (.aload_n 0, 1) := by decide +kernel
theorem dX10_setOf_63 : decode cX10_setOf 63 = .ok (.iload_n 2, 1) := by decide +kernel
theorem dX10_setOf_64 : decode cX10_setOf 64 = .ok (.invokevirtual 257, 3) := by decide +kernel
theorem dX10_setOf_67 : decode cX10_setOf 67 = .ok (.ireturn, 1) := by decide +kernel
theorem dX10_setOf_68 : decode cX10_setOf 68 = .ok (.aload_n 0, 1) := by decide +kernel
theorem dX10_setOf_69 : decode cX10_setOf 69 = .ok (.iload_n 2, 1) := by decide +kernel
theorem dX10_setOf_70 : decode cX10_setOf 70 = .ok (.invokevirtual 206, 3) := by decide +kernel
theorem dX10_setOf_73 : decode cX10_setOf 73 = .ok (.ireturn, 1) := by decide +kernel
theorem dX10_setOf_74 : decode cX10_setOf 74 = .ok (.aload_n 0, 1) := by decide +kernel
theorem dX10_setOf_75 : decode cX10_setOf 75 = .ok (.iload_n 2, 1) := by decide +kernel
theorem dX10_setOf_76 : decode cX10_setOf 76 = .ok (.invokevirtual 260, 3) := by decide +kernel
theorem dX10_setOf_79 : decode cX10_setOf 79 = .ok (.ireturn, 1) := by decide +kernel
theorem dX10_setOf_80 : decode cX10_setOf 80 = .ok (.aload_n 0, 1) := by decide +kernel
theorem dX10_setOf_81 : decode cX10_setOf 81 = .ok (.iload_n 2, 1) := by decide +kernel
theorem dX10_setOf_82 : decode cX10_setOf 82 = .ok (.invokevirtual 263, 3) := by decide +kernel
theorem dX10_setOf_85 : decode cX10_setOf 85 = .ok (.ireturn, 1) := by decide +kernel
theorem dX10_setOf_86 : decode cX10_setOf 86 = .ok (.aload_n 0, 1) := by decide +kernel
theorem dX10_setOf_87 : decode cX10_setOf 87 = .ok (.iload_n 2, 1) := by decide +kernel
theorem dX10_setOf_88 : decode cX10_setOf 88 = .ok (.invokevirtual 266, 3) := by decide +kernel
theorem dX10_setOf_91 : decode cX10_setOf 91 = .ok (.ireturn, 1) := by decide +kernel
theorem dX10_setOf_92 : decode cX10_setOf 92 = .ok (.aload_n 0, 1) := by decide +kernel
theorem dX10_setOf_93 : decode cX10_setOf 93 = .ok (.iload_n 2, 1) := by decide +kernel
theorem dX10_setOf_94 : decode cX10_setOf 94 = .ok (.invokevirtual 269, 3) := by decide +kernel
theorem dX10_setOf_97 : decode cX10_setOf 97 = .ok (.ireturn, 1) := by decide +kernel
theorem dX10_setOf_98 : decode cX10_setOf 98 = .ok (.aload_n 0, 1) := by decide +kernel
theorem dX10_setOf_99 : decode cX10_setOf 99 = .ok (.iload_n 2, 1) := by decide +kernel
theorem dX10_setOf_100 : decode cX10_setOf 100 = .ok (.invokevirtual 272, 3) := by decide +kernel
theorem dX10_setOf_103 : decode cX10_setOf 103 = .ok (.ireturn, 1) := by decide +kernel
theorem dX10_setOf_104 : decode cX10_setOf 104 = .ok (.aload_n 0, 1) := by decide +kernel
theorem dX10_setOf_105 : decode cX10_setOf 105 = .ok (.invokevirtual 275, 3) := by decide +kernel
theorem dX10_setOf_108 : decode cX10_setOf 108 = .ok (.aload_n 0, 1) := by decide +kernel
theorem dX10_setOf_109 : decode cX10_setOf 109 = .ok (.getfield 59, 3) := by decide +kernel
theorem dX10_setOf_112 : decode cX10_setOf 112 = .ok (.iload_n 2, 1) := by decide +kernel
theorem dX10_setOf_113 : decode cX10_setOf 113 = .ok (.iaload, 1) := by decide +kernel
theorem dX10_setOf_114 : decode cX10_setOf 114 = .ok (.ireturn, 1) := by decide +kernel
theorem dX10_setOf_115 : decode cX10_setOf 115 = .ok (.aload_n 0, 1) := by decide +kernel
theorem dX10_setOf_116 : decode cX10_setOf 116 = .ok (.iload_n 2, 1) := by decide +kernel
theorem dX10_setOf_117 : decode cX10_setOf 117 = .ok (.invokevirtual 278, 3) := by decide +kernel
theorem dX10_setOf_120 : decode cX10_setOf 120 = .ok (.ireturn, 1) := by decide +kernel
theorem dX10_set_0 : decode cX10_set 0 = .ok (.aload_n 0, 1) := by decide +kernel
theorem dX10_set_1 : decode cX10_set 1 = .ok (.iconst 0, 1) := by decide +kernel
theorem dX10_set_2 : decode cX10_set 2 = .ok (.putfield 90, 3) := by decide +kernel
theorem dX10_set_5 : decode cX10_set 5 = .ok (.iload_n 1, 1) := by decide +kernel
theorem dX10_set_6 : decode cX10_set 6 = .ok (.i2l, 1) := by decide +kernel
theorem dX10_set_7 : decode cX10_set 7 = .ok (.lconst 0, 1) := by decide +kernel
theorem dX10_set_8 : decode cX10_set 8 = .ok (.ldc2_w 281, 3) := by decide +kernel
theorem dX10_set_11 : decode cX10_set 11 = .ok (.invokestatic 93, 3) := by decide +kernel
theorem dX10_set_14 : decode cX10_set 14 = .ok (.ifCond .eq 20, 3) := by decide +kernel
theorem dX10_set_17 : decode cX10_set 17 = .ok (.aload_n 0, 1) := by decide +kernel
theorem dX10_set_18 : decode cX10_set 18 = .ok (.iload_n 2, 1) := by decide +kernel
theorem dX10_set_19 : decode cX10_set 19 = .ok (.invokevirtual 183, 3) := by decide +kernel
theorem dX10_set_22 : decode cX10_set 22 = .ok (.ifCond .eq 12, 3) := by decide +kernel
theorem dX10_set_25 : decode cX10_set 25 = .ok (.aload_n 0, 1) := by decide +kernel
theorem dX10_set_26 : decode cX10_set 26 = .ok (.iload_n 1, 1) := by decide +kernel
theorem dX10_set_27 : decode cX10_set 27 = .ok (.iload_n 2, 1) := by decide +kernel
theorem dX10_set_28 : decode cX10_set 28 = .ok (.invokevirtual 283, 3) := by decide +kernel
theorem dX10_set_31 : decode cX10_set 31 = .ok (.goto 4, 3) := by decide +kernel
theorem dX10_set_34 : decode cX10_set 34 = .ok (.iconst (-1), 1) := by decide +kernel
theorem dX10_set_35 : decode cX10_set 35 = .ok (.ireturn, 1) := by decide +kernel
theorem dX10_praised_0 : decode cX10_praised 0 = .ok (.aload_n 0, 1) := by decide +kernel
theorem dX10_praised_1 : decode cX10_praised 1 = .ok (.iconst 0, 1) := by decide +kernel
theorem dX10_praised_2 : decode cX10_praised 2 = .ok (.putfield 90, 3) := by decide +kernel
theorem dX10_praised_5 : decode cX10_praised 5 = .ok (.aload_n 0, 1) := by decide +kernel
theorem dX10_praised_6 : decode cX10_praised 6 = .ok (.iload_n 1, 1) := by decide +kernel
theorem dX10_praised_7 : decode cX10_praised 7 = .ok (.invokevirtual 170, 3) := by decide +kernel
theorem dX10_praised_10 : decode cX10_praised 10 = .ok (.ifCond .eq 17, 3) := by decide +kernel
theorem dX10_praised_13 : decode cX10_praised 13 = .ok (.iload_n 2, 1) := by decide +kernel
theorem dX10_praised_14 : decode cX10_praised 14 = .ok (.i2l, 1) := by decide +kernel
theorem dX10_praised_15 : decode cX10_praised 15 = .ok (.ldc2_w 286, 3) := by decide +kernel
theorem dX10_praised_18 : decode cX10_praised 18 = .ok (.ldc2_w 161, 3) := by decide +kernel
theorem dX10_praised_21 : decode cX10_praised 21 = .ok (.invokestatic 93, 3) := by decide +kernel
theorem dX10_praised_24 : decode cX10_praised 24 = .ok (.ifCond .ne 5, 3) := by decide +kernel
theorem dX10_praised_27 : decode cX10_praised 27 = .ok (.iconst (-1), 1) := by decide +kernel
theorem dX10_praised_28 : decode cX10_praised 28 = .ok (.ireturn, 1) := by decide +kernel
theorem dX10_praised_29 : decode cX10_praised 29 = .ok (.iload_n 2, 1) := by decide +kernel
theorem dX10_praised_30 : decode cX10_praised 30 = .ok (.iconst (-1), 1) := by decide +kernel
theorem dX10_praised_31 : decode cX10_praised 31 = .ok (.if_icmp .eq 25, 3) := by decide +kernel
theorem dX10_praised_34 : decode cX10_praised 34 = .ok (.aload_n 0, 1) := by decide +kernel
theorem dX10_praised_35 : decode cX10_praised 35 = .ok (.iload_n 2, 1) := by decide +kernel
theorem dX10_praised_36 : decode cX10_praised 36 = .ok (.aload_n 0, 1) := by decide +kernel
theorem dX10_praised_37 : decode cX10_praised 37 = .ok (.invokevirtual 101, 3) := by decide +kernel
theorem dX10_praised_40 : decode cX10_praised 40 = .ok (.invokevirtual 283, 3) := by decide +kernel
theorem dX10_praised_43 : decode cX10_praised 43 = .ok (.iload_n 1, 1) := by decide +kernel
theorem dX10_praised_44 : decode cX10_praised 44 = .ok (.invokestatic 146, 3) := by decide +kernel
theorem dX10_praised_47 : decode cX10_praised 47 = .ok (.ifCond .eq 7, 3) := by decide +kernel
theorem dX10_praised_50 : decode cX10_praised 50 = .ok (.iconst 1, 1) := by decide +kernel
theorem dX10_praised_51 : decode cX10_praised 51 = .ok (.goto 4, 3) := by decide +kernel
theorem dX10_praised_54 : decode cX10_praised 54 = .ok (.iconst 0, 1) := by decide +kernel
theorem dX10_praised_55 : decode cX10_praised 55 = .ok (.ireturn, 1) := by decide +kernel
theorem dX10_praised_56 : decode cX10_praised 56 = .ok (.iconst 0, 1) := by decide +kernel
theorem dX10_praised_57 : decode cX10_praised 57 = .ok (.istore_n 3, 1) := by decide +kernel
theorem dX10_praised_58 : decode cX10_praised 58 = .ok (.iconst 0, 1) := by decide +kernel
theorem dX10_praised_59 : decode cX10_praised 59 = .ok (.istore 4, 2) := by decide +kernel
theorem dX10_praised_61 : decode cX10_praised 61 = .ok (.iload 4, 2) := by decide +kernel
theorem dX10_praised_63 : decode cX10_praised 63 = .ok (.bipush 9, 2) := by decide +kernel
theorem dX10_praised_65 : decode cX10_praised 65 = .ok (.if_icmp .ge 34, 3) := by decide +kernel
theorem dX10_praised_68 : decode cX10_praised 68 = .ok (.iload_n 3, 1) := by decide +kernel
theorem dX10_praised_69 : decode cX10_praised 69 = .ok (.aload_n 0, 1) := by decide +kernel
theorem dX10_praised_70 : decode cX10_praised 70 = .ok (.iload 4, 2) := by decide +kernel
theorem dX10_praised_72 : decode cX10_praised 72 = .ok (.aload_n 0, 1) := by decide +kernel
theorem dX10_praised_73 : decode cX10_praised 73 = .ok (.invokevirtual 101, 3) := by decide +kernel
theorem dX10_praised_76 : decode cX10_praised 76 = .ok (.invokevirtual 283, 3) := by decide +kernel
theorem dX10_praised_79 : decode cX10_praised 79 = .ok (.iload_n 1, 1) := by decide +kernel
theorem dX10_praised_80 : decode cX10_praised 80 = .ok (.invokestatic 146, 3) := by decide +kernel
theorem dX10_praised_83 : decode cX10_praised 83 = .ok (.ifCond .eq 7, 3) := by decide +kernel
theorem dX10_praised_86 : decode cX10_praised 86 = .ok (.iconst 1, 1) := by decide +kernel
theorem dX10_praised_87 : decode cX10_praised 87 = .ok (.goto 4, 3) := by decide +kernel
theorem dX10_praised_90 : decode cX10_praised 90 = .ok (.iconst 0, 1) := by decide +kernel
theorem dX10_praised_91 : decode cX10_praised 91 = .ok (.iadd, 1) := by decide +kernel
theorem dX10_praised_92 : decode cX10_praised 92 = .ok (.istore_n 3, 1) := by decide +kernel
theorem dX10_praised_93 : decode cX10_praised 93 = .ok (.iinc 4 1, 3) := by decide +kernel
theorem dX10_praised_96 : decode cX10_praised 96 = .ok (.goto (-35), 3) := by decide +kernel
theorem dX10_praised_99 : decode cX10_praised 99 = .ok (.iload_n 3, 1) := by decide +kernel
theorem dX10_praised_100 : decode cX10_praised 100 = .ok (.ireturn, 1) := by decide +kernel
theorem dX10_within_0 : decode cX10_within 0 = .ok (.aload_n 0, 1) := by decide +kernel
theorem dX10_within_1 : decode cX10_within 1 = .ok (.iconst 0, 1) := by decide +kernel
theorem dX10_within_2 : decode cX10_within 2 = .ok (.putfield 90, 3) := by decide +kernel
theorem dX10_within_5 : decode cX10_within 5 = .ok (.aload_n 0, 1) := by decide +kernel
theorem dX10_within_6 : decode cX10_within 6 = .ok (.invokevirtual 97, 3) := by decide +kernel
theorem dX10_within_9 : decode cX10_within 9 = .ok (.ifCond .eq 13, 3) := by decide +kernel
theorem dX10_within_12 : decode cX10_within 12 = .ok (.iload_n 1, 1) := by decide +kernel
theorem dX10_within_13 : decode cX10_within 13 = .ok (.i2l, 1) := by decide +kernel
theorem dX10_within_14 : decode cX10_within 14 = .ok (.lconst 0, 1) := by decide +kernel
theorem dX10_within_15 : decode cX10_within 15 = .ok (.lconst 1, 1) := by decide +kernel
theorem dX10_within_16 : decode cX10_within 16 = .ok (.invokestatic 93, 3) := by decide +kernel
theorem dX10_within_19 : decode cX10_within 19 = .ok (.ifCond .ne 5, 3) := by decide +kernel
theorem dX10_within_22 : decode cX10_within 22 = .ok (.iconst (-1), 1) := by decide +kernel
theorem dX10_within_23 : decode cX10_within 23 = .ok (.ireturn, 1) := by decide +kernel
theorem dX10_within_24 : decode cX10_within 24 = .ok (.iconst 0, 1) := by decide +kernel
theorem dX10_within_25 : decode cX10_within 25 = .ok (.istore_n 2, 1) := by decide +kernel
theorem dX10_within_26 : decode cX10_within 26 = .ok (.iload_n 2, 1) := by decide +kernel
theorem dX10_within_27 : decode cX10_within 27 = .ok (.bipush 9, 2) := by decide +kernel
theorem dX10_within_29 : decode cX10_within 29 = .ok (.if_icmp .ge 24, 3) := by decide +kernel
theorem dX10_within_32 : decode cX10_within 32 = .ok (.aload_n 0, 1) := by decide +kernel
theorem dX10_within_33 : decode cX10_within 33 = .ok (.getfield 68, 3) := by decide +kernel
theorem dX10_within_36 : decode cX10_within 36 = .ok (.iload_n 2, 1) := by decide +kernel
theorem dX10_within_37 : decode cX10_within 37 = .ok (.aload_n 0, 1) := by decide +kernel
theorem dX10_within_38 : decode cX10_within 38 = .ok (.iload_n 2, 1) := by decide +kernel
theorem dX10_within_39 : decode cX10_within 39 = .ok (.aload_n 0, 1) := by decide +kernel
theorem dX10_within_40 : decode cX10_within 40 = .ok (.invokevirtual 101, 3) := by decide +kernel
theorem dX10_within_43 : decode cX10_within 43 = .ok (.invokevirtual 283, 3) := by decide +kernel
theorem dX10_within_46 : decode cX10_within 46 = .ok (.iastore, 1) := by decide +kernel
theorem dX10_within_47 : decode cX10_within 47 = .ok (.iinc 2 1, 3) := by decide +kernel
theorem dX10_within_50 : decode cX10_within 50 = .ok (.goto (-24), 3) := by decide +kernel
theorem dX10_within_53 : decode cX10_within 53 = .ok (.iconst 0, 1) := by decide +kernel
theorem dX10_within_54 : decode cX10_within 54 = .ok (.istore_n 2, 1) := by decide +kernel
theorem dX10_within_55 : decode cX10_within 55 = .ok (.iconst (-1), 1) := by decide +kernel
theorem dX10_within_56 : decode cX10_within 56 = .ok (.istore_n 3, 1) := by decide +kernel
theorem dX10_within_57 : decode cX10_within 57 = .ok (.iconst 0, 1) := by decide +kernel
theorem dX10_within_58 : decode cX10_within 58 = .ok (.istore 4, 2) := by decide +kernel
theorem dX10_within_60 : decode cX10_within 60 = .ok (.iload 4, 2) := by decide +kernel
theorem dX10_within_62 : decode cX10_within 62 = .ok (.bipush 9, 2) := by decide +kernel
theorem dX10_within_64 : decode cX10_within 64 = .ok (.if_icmp .ge 112, 3) := by decide +kernel
theorem dX10_within_67 : decode cX10_within 67 = .ok (.iconst 0, 1) := by decide +kernel
theorem dX10_within_68 : decode cX10_within 68 = .ok (.istore 5, 2) := by decide +kernel
theorem dX10_within_70 : decode cX10_within 70 = .ok (.iload 5, 2) := by decide +kernel
theorem dX10_within_72 : decode cX10_within 72 = .ok (.bipush 9, 2) := by decide +kernel
theorem dX10_within_74 : decode cX10_within 74 = .ok (.if_icmp .ge 96, 3) := by decide +kernel
theorem dX10_within_77 : decode cX10_within 77 = .ok (.iload 4, 2) := by decide +kernel
theorem dX10_within_79 : decode cX10_within 79 = .ok (.iload 5, 2) := by decide +kernel
theorem dX10_within_81 : decode cX10_within 81 = .ok (.if_icmp .eq 27, 3) := by decide +kernel
theorem dX10_within_84 : decode cX10_within 84 = .ok (.aload_n 0, 1) := by decide +kernel
theorem dX10_within_85 : decode cX10_within 85 = .ok (.getfield 68, 3) := by decide +kernel
theorem dX10_within_88 : decode cX10_within 88 = .ok (.iload 4, 2) := by decide +kernel
theorem dX10_within_90 : decode cX10_within 90 = .ok (.iaload, 1) := by decide +kernel
theorem dX10_within_91 : decode cX10_within 91 = .ok (.aload_n 0, 1) := by decide +kernel
theorem dX10_within_92 : decode cX10_within 92 = .ok (.getfield 68, 3) := by decide +kernel
theorem dX10_within_95 : decode cX10_within 95 = .ok (.iload 5, 2) := by decide +kernel
theorem dX10_within_97 : decode cX10_within 97 = .ok (.iaload, 1) := by decide +kernel
theorem dX10_within_98 : decode cX10_within 98 = .ok (.invokestatic 105, 3) := by decide +kernel
theorem dX10_within_101 : decode cX10_within 101 = .ok (.ifCond .eq 7, 3) := by decide +kernel
theorem dX10_within_104 : decode cX10_within 104 = .ok (.iconst 1, 1) := by decide +kernel
theorem dX10_within_105 : decode cX10_within 105 = .ok (.goto 4, 3) := by decide +kernel
theorem dX10_within_108 : decode cX10_within 108 = .ok (.iconst 0, 1) := by decide +kernel
theorem dX10_within_109 : decode cX10_within 109 = .ok (.istore 6, 2) := by decide +kernel
theorem dX10_within_111 : decode cX10_within 111 = .ok (.iload_n 2, 1) := by decide +kernel
theorem dX10_within_112 : decode cX10_within 112 = .ok (.iload 6, 2) := by decide +kernel
theorem dX10_within_114 : decode cX10_within 114 = .ok (.ifCond .eq 7, 3) := by decide +kernel
theorem dX10_within_117 : decode cX10_within 117 = .ok (.iconst 1, 1) := by decide +kernel
theorem dX10_within_118 : decode cX10_within 118 = .ok (.goto 4, 3) := by decide +kernel
theorem dX10_within_121 : decode cX10_within 121 = .ok (.iconst 0, 1) := by decide +kernel
theorem dX10_within_122 : decode cX10_within 122 = .ok (.iadd, 1) := by decide +kernel
theorem dX10_within_123 : decode cX10_within 123 = .ok (.istore_n 2, 1) := by decide +kernel
theorem dX10_within_124 : decode cX10_within 124 = .ok (.iload 6, 2) := by decide +kernel
theorem dX10_within_126 : decode cX10_within 126 = .ok (.ifCond .eq 36, 3) := by decide +kernel
theorem dX10_within_129 : decode cX10_within 129 = .ok (.iload_n 3, 1) := by decide +kernel
theorem dX10_within_130 : decode cX10_within 130 = .ok (.iconst (-1), 1) := by decide +kernel
theorem dX10_within_131 : decode cX10_within 131 = .ok (.if_icmp .ne 31, 3) := by decide +kernel
theorem dX10_within_134 : decode cX10_within 134 = .ok (.aload_n 0, 1) := by decide +kernel
theorem dX10_within_135 : decode cX10_within 135 = .ok (.getfield 68, 3) := by decide +kernel
theorem dX10_within_138 : decode cX10_within 138 = .ok (.iload 4, 2) := by decide +kernel
theorem dX10_within_140 : decode cX10_within 140 = .ok (.iaload, 1) := by decide +kernel
theorem dX10_within_141 : decode cX10_within 141 = .ok (.aload_n 0, 1) := by decide +kernel
theorem dX10_within_142 : decode cX10_within 142 = .ok (.getfield 68, 3) := by decide +kernel
theorem dX10_within_145 : decode cX10_within 145 = .ok (.iload 5, 2) := by decide +kernel
theorem dX10_within_147 : decode cX10_within 147 = .ok (.iaload, 1) := by decide +kernel
theorem dX10_within_148 : decode cX10_within 148 = .ok (.if_icmp .eq 14, 3) := by decide +kernel
theorem dX10_within_151 : decode cX10_within 151 = .ok (.bipush 10, 2) := by decide +kernel
theorem dX10_within_153 : decode cX10_within 153 = .ok (.iload 4, 2) := by decide +kernel
theorem dX10_within_155 : decode cX10_within 155 = .ok (.imul, 1) := by decide +kernel
theorem dX10_within_156 : decode cX10_within 156 = .ok (.iload 5, 2) := by decide +kernel
theorem dX10_within_158 : decode cX10_within 158 = .ok (.iadd, 1) := by decide +kernel
theorem dX10_within_159 : decode cX10_within 159 = .ok (.goto 4, 3) := by decide +kernel
theorem dX10_within_162 : decode cX10_within 162 = .ok (.iload_n 3, 1) := by decide +kernel
theorem dX10_within_163 : decode cX10_within 163 = .ok (.istore_n 3, 1) := by decide +kernel
theorem dX10_within_164 : decode cX10_within 164 = .ok (.iinc 5 1, 3) := by decide +kernel
theorem dX10_within_167 : decode cX10_within 167 = .ok (.goto (-97), 3) := by decide +kernel
theorem dX10_within_170 : decode cX10_within 170 = .ok (.iinc 4 1, 3) := by decide +kernel
theorem dX10_within_173 : decode cX10_within 173 = .ok (.goto (-113), 3) := by decide +kernel
theorem dX10_within_176 : decode cX10_within 176 = .ok (.iload_n 1, 1) := by decide +kernel
theorem dX10_within_177 : decode cX10_within 177 = .ok (.ifCond .ne 7, 3) := by decide +kernel
theorem dX10_within_180 : decode cX10_within 180 = .ok (.iload_n 2, 1) := by decide +kernel
theorem dX10_within_181 : decode cX10_within 181 = .ok (.goto 4, 3) := by decide +kernel
theorem dX10_within_184 : decode cX10_within 184 = .ok (.iload_n 3, 1) := by decide +kernel
theorem dX10_within_185 : decode cX10_within 185 = .ok (.ireturn, 1) := by decide +kernel
theorem dX10_chain_0 : decode cX10_chain 0 = .ok (.aload_n 0, 1) := by decide +kernel
theorem dX10_chain_1 : decode cX10_chain 1 = .ok (.iconst 0, 1) := by decide +kernel
theorem dX10_chain_2 : decode cX10_chain 2 = .ok (.putfield 90, 3) := by decide +kernel
theorem dX10_chain_5 : decode cX10_chain 5 = .ok (.aload_n 0, 1) := by decide +kernel
theorem dX10_chain_6 : decode cX10_chain 6 = .ok (.iload_n 2, 1) := by decide +kernel
theorem dX10_chain_7 : decode cX10_chain 7 = .ok (.invokevirtual 183, 3) := by decide +kernel
theorem dX10_chain_10 : decode cX10_chain 10 = .ok (.ifCond .eq 24, 3) := by decide +kernel
theorem dX10_chain_13 : decode cX10_chain 13 = .ok (.aload_n 0, 1) := by decide +kernel
theorem dX10_chain_14 : decode cX10_chain 14 = .ok (.iload_n 1, 1) := by decide +kernel
theorem dX10_chain_15 : decode cX10_chain 15 = .ok (.invokevirtual 170, 3) := by decide +kernel
theorem dX10_chain_18 : decode cX10_chain 18 = .ok (.ifCond .eq 16, 3) := by decide +kernel
theorem dX10_chain_21 : decode cX10_chain 21 = .ok (.iload_n 2, 1) := by decide +kernel
theorem dX10_chain_22 : decode cX10_chain 22 = .ok (.iload_n 1, 1) := by decide +kernel
theorem dX10_chain_23 : decode cX10_chain 23 = .ok (.invokestatic 146, 3) := by decide +kernel
theorem dX10_chain_26 : decode cX10_chain 26 = .ok (.ifCond .eq 8, 3) := by decide +kernel
theorem dX10_chain_29 : decode cX10_chain 29 = .ok (.iload_n 3, 1) := by decide +kernel
theorem dX10_chain_30 : decode cX10_chain 30 = .ok (.iconst (-1), 1) := by decide +kernel
theorem dX10_chain_31 : decode cX10_chain 31 = .ok (.if_icmp .ge 5, 3) := by decide +kernel
theorem dX10_chain_34 : decode cX10_chain 34 = .ok (.iconst (-1), 1) := by decide +kernel
theorem dX10_chain_35 : decode cX10_chain 35 = .ok (.ireturn, 1) := by decide +kernel
theorem dX10_chain_36 : decode cX10_chain 36 = .ok (.aload_n 0, 1) := by decide +kernel
theorem dX10_chain_37 : decode cX10_chain 37 = .ok (.iload_n 1, 1) := by decide +kernel
theorem dX10_chain_38 : decode cX10_chain 38 = .ok (.iload_n 2, 1) := by decide +kernel
theorem dX10_chain_39 : decode cX10_chain 39 = .ok (.invokevirtual 212, 3) := by decide +kernel
theorem dX10_chain_42 : decode cX10_chain 42 = .ok (.ifCond .ne 6, 3) := by decide +kernel
theorem dX10_chain_45 : decode cX10_chain 45 = .ok (.bipush (-3), 2) := by decide +kernel
theorem dX10_chain_47 : decode cX10_chain 47 = .ok (.ireturn, 1) := by decide +kernel
theorem dX10_chain_48 : decode cX10_chain 48 = .ok (.iload_n 3, 1) := by decide +kernel
theorem dX10_chain_49 : decode cX10_chain 49 = .ok (.iconst (-1), 1) := by decide +kernel
theorem dX10_chain_50 : decode cX10_chain 50 = .ok (.if_icmp .ne 10, 3) := by decide +kernel
theorem dX10_chain_53 : decode cX10_chain 53 = .ok (.aload_n 0, 1) := by decide +kernel
theorem dX10_chain_54 : decode cX10_chain 54 = .ok (.getfield 209, 3) := by decide +kernel
theorem dX10_chain_57 : decode cX10_chain 57 = .ok (.goto 21, 3) := by decide +kernel
theorem dX10_chain_60 : decode cX10_chain 60 = .ok (.iload_n 3, 1) := by decide +kernel
theorem dX10_chain_61 : decode cX10_chain 61 = .ok (.aload_n 0, 1) := by decide +kernel
theorem dX10_chain_62 : decode cX10_chain 62 = .ok (.getfield 209, 3) := by decide +kernel
theorem dX10_chain_65 : decode cX10_chain 65 = .ok (.if_icmp .ge 12, 3) := by decide +kernel
theorem dX10_chain_68 : decode cX10_chain 68 = .ok (.aload_n 0, 1) := by decide +kernel
theorem dX10_chain_69 : decode cX10_chain 69 = .ok (.getfield 35, 3) := by decide +kernel
theorem dX10_chain_72 : decode cX10_chain 72 = .ok (.iload_n 3, 1) := by decide +kernel
theorem dX10_chain_73 : decode cX10_chain 73 = .ok (.iaload, 1) := by decide +kernel
theorem dX10_chain_74 : decode cX10_chain 74 = .ok (.goto 4, 3) := by decide +kernel
theorem dX10_chain_77 : decode cX10_chain 77 = .ok (.iconst (-1), 1) := by decide +kernel
theorem dX10_chain_78 : decode cX10_chain 78 = .ok (.ireturn, 1) := by decide +kernel
theorem dX10_bestAt_0 : decode cX10_bestAt 0 = .ok (.aload_n 0, 1) := by decide +kernel
theorem dX10_bestAt_1 : decode cX10_bestAt 1 = .ok (.invokevirtual 101, 3) := by decide +kernel
theorem dX10_bestAt_4 : decode cX10_bestAt 4 = .ok (.istore_n 2, 1) := by decide +kernel
theorem dX10_bestAt_5 : decode cX10_bestAt 5 = .ok (.iconst (-1), 1) := by decide +kernel
theorem dX10_bestAt_6 : decode cX10_bestAt 6 = .ok (.istore_n 3, 1) := by decide +kernel
theorem dX10_bestAt_7 : decode cX10_bestAt 7 = .ok (.iconst 0, 1) := by decide +kernel
theorem dX10_bestAt_8 : decode cX10_bestAt 8 = .ok (.istore 4, 2) := by decide +kernel
theorem dX10_bestAt_10 : decode cX10_bestAt 10 = .ok (.iload 4, 2) := by decide +kernel
theorem dX10_bestAt_12 : decode cX10_bestAt 12 = .ok (.iload_n 1, 1) := by decide +kernel
theorem dX10_bestAt_13 : decode cX10_bestAt 13 = .ok (.if_icmp .gt 48, 3) := by decide +kernel
theorem dX10_bestAt_16 : decode cX10_bestAt 16 = .ok (.iconst 0, 1) := by decide +kernel
theorem dX10_bestAt_17 : decode cX10_bestAt 17 = .ok (.istore_n 3, 1) := by decide +kernel
theorem dX10_bestAt_18 : decode cX10_bestAt 18 = .ok (.iload_n 2, 1) := by decide +kernel
theorem dX10_bestAt_19 : decode cX10_bestAt 19 = .ok (.iload_n 3, 1) := by decide +kernel
theorem dX10_bestAt_20 : decode cX10_bestAt 20 = .ok (.invokestatic 146, 3) := by decide +kernel
theorem dX10_bestAt_23 : decode cX10_bestAt 23 = .ok (.ifCond .eq 18, 3) := by decide +kernel
theorem dX10_bestAt_26 : decode cX10_bestAt 26 = .ok (.aload_n 0, 1) := by decide +kernel
theorem dX10_bestAt_27 : decode cX10_bestAt 27 = .ok (.iload_n 3, 1) := by decide +kernel
theorem dX10_bestAt_28 : decode cX10_bestAt 28 = .ok (.iload_n 2, 1) := by decide +kernel
theorem dX10_bestAt_29 : decode cX10_bestAt 29 = .ok (.invokevirtual 215, 3) := by decide +kernel
theorem dX10_bestAt_32 : decode cX10_bestAt 32 = .ok (.aload_n 0, 1) := by decide +kernel
theorem dX10_bestAt_33 : decode cX10_bestAt 33 = .ok (.getfield 47, 3) := by decide +kernel
theorem dX10_bestAt_36 : decode cX10_bestAt 36 = .ok (.iload_n 2, 1) := by decide +kernel
theorem dX10_bestAt_37 : decode cX10_bestAt 37 = .ok (.iaload, 1) := by decide +kernel
theorem dX10_bestAt_38 : decode cX10_bestAt 38 = .ok (.if_icmp .eq 9, 3) := by decide +kernel
theorem dX10_bestAt_41 : decode cX10_bestAt 41 = .ok (.iinc 3 1, 3) := by decide +kernel
theorem dX10_bestAt_44 : decode cX10_bestAt 44 = .ok (.goto (-26), 3) := by decide +kernel
theorem dX10_bestAt_47 : decode cX10_bestAt 47 = .ok (.iload_n 2, 1) := by decide +kernel
theorem dX10_bestAt_48 : decode cX10_bestAt 48 = .ok (.iconst 1, 1) := by decide +kernel
theorem dX10_bestAt_49 : decode cX10_bestAt 49 = .ok (.iload_n 3, 1) := by decide +kernel
theorem dX10_bestAt_50 : decode cX10_bestAt 50 = .ok (.ishl, 1) := by decide +kernel
theorem dX10_bestAt_51 : decode cX10_bestAt 51 = .ok (.iconst (-1), 1) := by decide +kernel
theorem dX10_bestAt_52 : decode cX10_bestAt 52 = .ok (.ixor, 1) := by decide +kernel
theorem dX10_bestAt_53 : decode cX10_bestAt 53 = .ok (.iand, 1) := by decide +kernel
theorem dX10_bestAt_54 : decode cX10_bestAt 54 = .ok (.istore_n 2, 1) := by decide +kernel
theorem dX10_bestAt_55 : decode cX10_bestAt 55 = .ok (.iinc 4 1, 3) := by decide +kernel
theorem dX10_bestAt_58 : decode cX10_bestAt 58 = .ok (.goto (-48), 3) := by decide +kernel
theorem dX10_bestAt_61 : decode cX10_bestAt 61 = .ok (.iload_n 3, 1) := by decide +kernel
theorem dX10_bestAt_62 : decode cX10_bestAt 62 = .ok (.ireturn, 1) := by decide +kernel
theorem dX10_best_0 : decode cX10_best 0 = .ok (.aload_n 0, 1) := by decide +kernel
theorem dX10_best_1 : decode cX10_best 1 = .ok (.iconst 0, 1) := by decide +kernel
theorem dX10_best_2 : decode cX10_best 2 = .ok (.putfield 90, 3) := by decide +kernel
theorem dX10_best_5 : decode cX10_best 5 = .ok (.aload_n 0, 1) := by decide +kernel
theorem dX10_best_6 : decode cX10_best 6 = .ok (.invokevirtual 97, 3) := by decide +kernel
theorem dX10_best_9 : decode cX10_best 9 = .ok (.ifCond .eq 33, 3) := by decide +kernel
theorem dX10_best_12 : decode cX10_best 12 = .ok (.iload_n 1, 1) := by decide +kernel
theorem dX10_best_13 : decode cX10_best 13 = .ok (.i2l, 1) := by decide +kernel
theorem dX10_best_14 : decode cX10_best 14 = .ok (.lconst 0, 1) := by decide +kernel
theorem dX10_best_15 : decode cX10_best 15 = .ok (.lconst 1, 1) := by decide +kernel
theorem dX10_best_16 : decode cX10_best 16 = .ok (.invokestatic 93, 3) := by decide +kernel
theorem dX10_best_19 : decode cX10_best 19 = .ok (.ifCond .ne 25, 3) := by decide +kernel
theorem dX10_best_22 : decode cX10_best 22 = .ok (.iload_n 1, 1) := by decide +kernel
theorem dX10_best_23 : decode cX10_best 23 = .ok (.i2l, 1) := by decide +kernel
theorem dX10_best_24 : decode cX10_best 24 = .ok (.ldc2_w 288, 3) := by decide +kernel
theorem dX10_best_27 : decode cX10_best 27 = .ok (.ldc2_w 281, 3) := by decide +kernel
theorem dX10_best_30 : decode cX10_best 30 = .ok (.aload_n 0, 1) := by decide +kernel
theorem dX10_best_31 : decode cX10_best 31 = .ok (.invokevirtual 193, 3) := by decide +kernel
theorem dX10_best_34 : decode cX10_best 34 = .ok (.i2l, 1) := by decide +kernel
theorem dX10_best_35 : decode cX10_best 35 = .ok (.ladd, 1) := by decide +kernel
theorem dX10_best_36 : decode cX10_best 36 = .ok (.invokestatic 93, 3) := by decide +kernel
theorem dX10_best_39 : decode cX10_best 39 = .ok (.ifCond .ne 5, 3) := by decide +kernel
theorem dX10_best_42 : decode cX10_best 42 = .ok (.iconst (-1), 1) := by decide +kernel
theorem dX10_best_43 : decode cX10_best 43 = .ok (.ireturn, 1) := by decide +kernel
theorem dX10_best_44 : decode cX10_best 44 = .ok (.aload_n 0, 1) := by decide +kernel
theorem dX10_best_45 : decode cX10_best 45 = .ok (.invokevirtual 218, 3) := by decide +kernel
theorem dX10_best_48 : decode cX10_best 48 = .ok (.iload_n 1, 1) := by decide +kernel
theorem dX10_best_49 : decode cX10_best 49 = .ok (.ifCond .ne 15, 3) := by decide +kernel
theorem dX10_best_52 : decode cX10_best 52 = .ok (.aload_n 0, 1) := by decide +kernel
theorem dX10_best_53 : decode cX10_best 53 = .ok (.getfield 47, 3) := by decide +kernel
theorem dX10_best_56 : decode cX10_best 56 = .ok (.aload_n 0, 1) := by decide +kernel
theorem dX10_best_57 : decode cX10_best 57 = .ok (.invokevirtual 101, 3) := by decide +kernel
theorem dX10_best_60 : decode cX10_best 60 = .ok (.iaload, 1) := by decide +kernel
theorem dX10_best_61 : decode cX10_best 61 = .ok (.goto 28, 3) := by decide +kernel
theorem dX10_best_64 : decode cX10_best 64 = .ok (.iload_n 1, 1) := by decide +kernel
theorem dX10_best_65 : decode cX10_best 65 = .ok (.iconst 1, 1) := by decide +kernel
theorem dX10_best_66 : decode cX10_best 66 = .ok (.if_icmp .ne 15, 3) := by decide +kernel
theorem dX10_best_69 : decode cX10_best 69 = .ok (.aload_n 0, 1) := by decide +kernel
theorem dX10_best_70 : decode cX10_best 70 = .ok (.getfield 50, 3) := by decide +kernel
theorem dX10_best_73 : decode cX10_best 73 = .ok (.aload_n 0, 1) := by decide +kernel
theorem dX10_best_74 : decode cX10_best 74 = .ok (.invokevirtual 101, 3) := by decide +kernel
theorem dX10_best_77 : decode cX10_best 77 = .ok (.iaload, 1) := by decide +kernel
theorem dX10_best_78 : decode cX10_best 78 = .ok (.goto 11, 3) := by decide +kernel
theorem dX10_best_81 : decode cX10_best 81 = .ok (.aload_n 0, 1) := by decide +kernel
theorem dX10_best_82 : decode cX10_best 82 = .ok (.iload_n 1, 1) := by decide +kernel
theorem dX10_best_83 : decode cX10_best 83 = .ok (.bipush 10, 2) := by decide +kernel
theorem dX10_best_85 : decode cX10_best 85 = .ok (.isub, 1) := by decide +kernel
theorem dX10_best_86 : decode cX10_best 86 = .ok (.invokevirtual 290, 3) := by decide +kernel
theorem dX10_best_89 : decode cX10_best 89 = .ok (.ireturn, 1) := by decide +kernel
theorem dX10_byWins_0 : decode cX10_byWins 0 = .ok (.aload_n 0, 1) := by decide +kernel
theorem dX10_byWins_1 : decode cX10_byWins 1 = .ok (.iconst 0, 1) := by decide +kernel
theorem dX10_byWins_2 : decode cX10_byWins 2 = .ok (.putfield 90, 3) := by decide +kernel
theorem dX10_byWins_5 : decode cX10_byWins 5 = .ok (.aload_n 0, 1) := by decide +kernel
theorem dX10_byWins_6 : decode cX10_byWins 6 = .ok (.invokevirtual 97, 3) := by decide +kernel
theorem dX10_byWins_9 : decode cX10_byWins 9 = .ok (.ifCond .eq 13, 3) := by decide +kernel
theorem dX10_byWins_12 : decode cX10_byWins 12 = .ok (.iload_n 1, 1) := by decide +kernel
theorem dX10_byWins_13 : decode cX10_byWins 13 = .ok (.i2l, 1) := by decide +kernel
theorem dX10_byWins_14 : decode cX10_byWins 14 = .ok (.lconst 0, 1) := by decide +kernel
theorem dX10_byWins_15 : decode cX10_byWins 15 = .ok (.lconst 1, 1) := by decide +kernel
theorem dX10_byWins_16 : decode cX10_byWins 16 = .ok (.invokestatic 93, 3) := by decide +kernel
theorem dX10_byWins_19 : decode cX10_byWins 19 = .ok (.ifCond .ne 5, 3) := by decide +kernel
theorem dX10_byWins_22 : decode cX10_byWins 22 = .ok (.iconst (-1), 1) := by decide +kernel
theorem dX10_byWins_23 : decode cX10_byWins 23 = .ok (.ireturn, 1) := by decide +kernel
theorem dX10_byWins_24 : decode cX10_byWins 24 = .ok (.iconst 0, 1) := by decide +kernel
theorem dX10_byWins_25 : decode cX10_byWins 25 = .ok (.istore_n 2, 1) := by decide +kernel
theorem dX10_byWins_26 : decode cX10_byWins 26 = .ok (.iconst 0, 1) := by decide +kernel
theorem dX10_byWins_27 : decode cX10_byWins 27 = .ok (.istore_n 3, 1) := by decide +kernel
theorem dX10_byWins_28 : decode cX10_byWins 28 = .ok (.iload_n 3, 1) := by decide +kernel
theorem dX10_byWins_29 : decode cX10_byWins 29 = .ok (.aload_n 0, 1) := by decide +kernel
theorem dX10_byWins_30 : decode cX10_byWins 30 = .ok (.invokevirtual 193, 3) := by decide +kernel
theorem dX10_byWins_33 : decode cX10_byWins 33 = .ok (.if_icmp .ge 98, 3) := by decide +kernel
theorem dX10_byWins_36 : decode cX10_byWins 36 = .ok (.iconst 0, 1) := by decide +kernel
theorem dX10_byWins_37 : decode cX10_byWins 37 = .ok (.istore 4, 2) := by decide +kernel
theorem dX10_byWins_39 : decode cX10_byWins 39 = .ok (.iload 4, 2) := by decide +kernel
theorem dX10_byWins_41 : decode cX10_byWins 41 = .ok (.aload_n 0, 1) := by decide +kernel
theorem dX10_byWins_42 : decode cX10_byWins 42 = .ok (.invokevirtual 193, 3) := by decide +kernel
theorem dX10_byWins_45 : decode cX10_byWins 45 = .ok (.if_icmp .ge 80, 3) := by decide +kernel
theorem dX10_byWins_48 : decode cX10_byWins 48 = .ok (.aload_n 0, 1) := by decide +kernel
theorem dX10_byWins_49 : decode cX10_byWins 49 = .ok (.iload_n 3, 1) := by decide +kernel
theorem dX10_byWins_50 : decode cX10_byWins 50 = .ok (.aload_n 0, 1) := by decide +kernel
theorem dX10_byWins_51 : decode cX10_byWins 51 = .ok (.invokevirtual 101, 3) := by decide +kernel
theorem dX10_byWins_54 : decode cX10_byWins 54 = .ok (.invokevirtual 203, 3) := by decide +kernel
theorem dX10_byWins_57 : decode cX10_byWins 57 = .ok (.aload_n 0, 1) := by decide +kernel
theorem dX10_byWins_58 : decode cX10_byWins 58 = .ok (.iload 4, 2) := by decide +kernel
theorem dX10_byWins_60 : decode cX10_byWins 60 = .ok (.aload_n 0, 1) := by decide +kernel
theorem dX10_byWins_61 : decode cX10_byWins 61 = .ok (.invokevirtual 101, 3) := by decide +kernel
theorem dX10_byWins_64 : decode cX10_byWins 64 = .ok (.invokevirtual 203, 3) := by decide +kernel
theorem dX10_byWins_67 : decode cX10_byWins 67 = .ok (.isub, 1) := by decide +kernel
theorem dX10_byWins_68 : decode cX10_byWins 68 = .ok (.istore 5, 2) := by decide +kernel
theorem dX10_byWins_70 : decode cX10_byWins 70 = .ok (.iload 5, 2) := by decide +kernel
theorem dX10_byWins_72 : decode cX10_byWins 72 = .ok (.ifCond .gt 14, 3) := by decide +kernel
theorem dX10_byWins_75 : decode cX10_byWins 75 = .ok (.iload 5, 2) := by decide +kernel
theorem dX10_byWins_77 : decode cX10_byWins 77 = .ok (.ifCond .ne 13, 3) := by decide +kernel
theorem dX10_byWins_80 : decode cX10_byWins 80 = .ok (.iload_n 3, 1) := by decide +kernel
theorem dX10_byWins_81 : decode cX10_byWins 81 = .ok (.iload 4, 2) := by decide +kernel
theorem dX10_byWins_83 : decode cX10_byWins 83 = .ok (.if_icmp .ge 7, 3) := by decide +kernel
theorem dX10_byWins_86 : decode cX10_byWins 86 = .ok (.iconst 1, 1) := by decide +kernel
theorem dX10_byWins_87 : decode cX10_byWins 87 = .ok (.goto 4, 3) := by decide +kernel
theorem dX10_byWins_90 : decode cX10_byWins 90 = .ok (.iconst 0, 1) := by decide +kernel
theorem dX10_byWins_91 : decode cX10_byWins 91 = .ok (.istore 6, 2) := by decide +kernel
theorem dX10_byWins_93 : decode cX10_byWins 93 = .ok (.iload_n 2, 1) := by decide +kernel
theorem dX10_byWins_94 : decode cX10_byWins 94 = .ok (.iload 6, 2) := by decide +kernel
theorem dX10_byWins_96 : decode cX10_byWins 96 = .ok (.ifCond .eq 20, 3) := by decide +kernel
theorem dX10_byWins_99 : decode cX10_byWins 99 = .ok (.aload_n 0, 1) := by decide +kernel
theorem dX10_byWins_100 : decode cX10_byWins 100 = .ok (.iload 4, 2) := by decide +kernel
theorem dX10_byWins_102 : decode cX10_byWins 102 = .ok (.invokevirtual 166, 3) := by decide +kernel
theorem dX10_byWins_105 : decode cX10_byWins 105 = .ok (.iload_n 3, 1) := by decide +kernel
theorem dX10_byWins_106 : decode cX10_byWins 106 = .ok (.invokestatic 146, 3) := by decide +kernel
theorem dX10_byWins_109 : decode cX10_byWins 109 = .ok (.ifCond .eq 7, 3) := by decide +kernel
theorem dX10_byWins_112 : decode cX10_byWins 112 = .ok (.iconst 1, 1) := by decide +kernel
theorem dX10_byWins_113 : decode cX10_byWins 113 = .ok (.goto 4, 3) := by decide +kernel
theorem dX10_byWins_116 : decode cX10_byWins 116 = .ok (.iconst 0, 1) := by decide +kernel
theorem dX10_byWins_117 : decode cX10_byWins 117 = .ok (.iadd, 1) := by decide +kernel
theorem dX10_byWins_118 : decode cX10_byWins 118 = .ok (.istore_n 2, 1) := by decide +kernel
theorem dX10_byWins_119 : decode cX10_byWins 119 = .ok (.iinc 4 1, 3) := by decide +kernel
theorem dX10_byWins_122 : decode cX10_byWins 122 = .ok (.goto (-83), 3) := by decide +kernel
theorem dX10_byWins_125 : decode cX10_byWins 125 = .ok (.iinc 3 1, 3) := by decide +kernel
theorem dX10_byWins_128 : decode cX10_byWins 128 = .ok (.goto (-100), 3) := by decide +kernel
theorem dX10_byWins_131 : decode cX10_byWins 131 = .ok (.aload_n 0, 1) := by decide +kernel
theorem dX10_byWins_132 : decode cX10_byWins 132 = .ok (.invokevirtual 218, 3) := by decide +kernel
theorem dX10_byWins_135 : decode cX10_byWins 135 = .ok (.iload_n 1, 1) := by decide +kernel
theorem dX10_byWins_136 : decode cX10_byWins 136 = .ok (.ifCond .ne 7, 3) := by decide +kernel
theorem dX10_byWins_139 : decode cX10_byWins 139 = .ok (.iload_n 2, 1) := by decide +kernel
theorem dX10_byWins_140 : decode cX10_byWins 140 = .ok (.goto 14, 3) := by decide +kernel
theorem dX10_byWins_143 : decode cX10_byWins 143 = .ok (.iload_n 2, 1) := by decide +kernel
theorem dX10_byWins_144 : decode cX10_byWins 144 = .ok (.aload_n 0, 1) := by decide +kernel
theorem dX10_byWins_145 : decode cX10_byWins 145 = .ok (.getfield 47, 3) := by decide +kernel
theorem dX10_byWins_148 : decode cX10_byWins 148 = .ok (.aload_n 0, 1) := by decide +kernel
theorem dX10_byWins_149 : decode cX10_byWins 149 = .ok (.invokevirtual 101, 3) := by decide +kernel
theorem dX10_byWins_152 : decode cX10_byWins 152 = .ok (.iaload, 1) := by decide +kernel
theorem dX10_byWins_153 : decode cX10_byWins 153 = .ok (.isub, 1) := by decide +kernel
theorem dX10_byWins_154 : decode cX10_byWins 154 = .ok (.ireturn, 1) := by decide +kernel
theorem dX10_weight_0 : decode cX10_weight 0 = .ok (.aload_n 0, 1) := by decide +kernel
theorem dX10_weight_1 : decode cX10_weight 1 = .ok (.iconst 0, 1) := by decide +kernel
theorem dX10_weight_2 : decode cX10_weight 2 = .ok (.putfield 90, 3) := by decide +kernel
theorem dX10_weight_5 : decode cX10_weight 5 = .ok (.aload_n 0, 1) := by decide +kernel
theorem dX10_weight_6 : decode cX10_weight 6 = .ok (.iload_n 1, 1) := by decide +kernel
theorem dX10_weight_7 : decode cX10_weight 7 = .ok (.invokevirtual 170, 3) := by decide +kernel
theorem dX10_weight_10 : decode cX10_weight 10 = .ok (.ifCond .eq 13, 3) := by decide +kernel
theorem dX10_weight_13 : decode cX10_weight 13 = .ok (.iload_n 2, 1) := by decide +kernel
theorem dX10_weight_14 : decode cX10_weight 14 = .ok (.i2l, 1) := by decide +kernel
theorem dX10_weight_15 : decode cX10_weight 15 = .ok (.lconst 0, 1) := by decide +kernel
theorem dX10_weight_16 : decode cX10_weight 16 = .ok (.lconst 1, 1) := by decide +kernel
theorem dX10_weight_17 : decode cX10_weight 17 = .ok (.invokestatic 93, 3) := by decide +kernel
theorem dX10_weight_20 : decode cX10_weight 20 = .ok (.ifCond .ne 7, 3) := by decide +kernel
theorem dX10_weight_23 : decode cX10_weight 23 = .ok (.ldc_w 293, 3) := by decide +kernel
theorem dX10_weight_26 : decode cX10_weight 26 = .ok (.ireturn, 1) := by decide +kernel
theorem dX10_weight_27 : decode cX10_weight 27 = .ok (.aload_n 0, 1) := by decide +kernel
theorem dX10_weight_28 : decode cX10_weight 28 = .ok (.aload_n 0, 1) := by decide +kernel
theorem dX10_weight_29 : decode cX10_weight 29 = .ok (.invokevirtual 101, 3) := by decide +kernel
theorem dX10_weight_32 : decode cX10_weight 32 = .ok (.invokevirtual 272, 3) := by decide +kernel
theorem dX10_weight_35 : decode cX10_weight 35 = .ok (.istore_n 3, 1) := by decide +kernel
theorem dX10_weight_36 : decode cX10_weight 36 = .ok (.iload_n 2, 1) := by decide +kernel
theorem dX10_weight_37 : decode cX10_weight 37 = .ok (.ifCond .ne 24, 3) := by decide +kernel
theorem dX10_weight_40 : decode cX10_weight 40 = .ok (.iload_n 3, 1) := by decide +kernel
theorem dX10_weight_41 : decode cX10_weight 41 = .ok (.iload_n 1, 1) := by decide +kernel
theorem dX10_weight_42 : decode cX10_weight 42 = .ok (.invokestatic 146, 3) := by decide +kernel
theorem dX10_weight_45 : decode cX10_weight 45 = .ok (.ifCond .eq 12, 3) := by decide +kernel
theorem dX10_weight_48 : decode cX10_weight 48 = .ok (.aload_n 0, 1) := by decide +kernel
theorem dX10_weight_49 : decode cX10_weight 49 = .ok (.getfield 56, 3) := by decide +kernel
theorem dX10_weight_52 : decode cX10_weight 52 = .ok (.iload_n 1, 1) := by decide +kernel
theorem dX10_weight_53 : decode cX10_weight 53 = .ok (.iaload, 1) := by decide +kernel
theorem dX10_weight_54 : decode cX10_weight 54 = .ok (.goto 12, 3) := by decide +kernel
theorem dX10_weight_57 : decode cX10_weight 57 = .ok (.iconst 0, 1) := by decide +kernel
theorem dX10_weight_58 : decode cX10_weight 58 = .ok (.goto 8, 3) := by decide +kernel
theorem dX10_weight_61 : decode cX10_weight 61 = .ok (.aload_n 0, 1) := by decide +kernel
theorem dX10_weight_62 : decode cX10_weight 62 = .ok (.iload_n 1, 1) := by decide +kernel
theorem dX10_weight_63 : decode cX10_weight 63 = .ok (.invokevirtual 230, 3) := by decide +kernel
theorem dX10_weight_66 : decode cX10_weight 66 = .ok (.ireturn, 1) := by decide +kernel
theorem dX10_keeps_0 : decode cX10_keeps 0 = .ok (.aload_n 0, 1) := by decide +kernel
theorem dX10_keeps_1 : decode cX10_keeps 1 = .ok (.iconst 0, 1) := by decide +kernel
theorem dX10_keeps_2 : decode cX10_keeps 2 = .ok (.putfield 90, 3) := by decide +kernel
theorem dX10_keeps_5 : decode cX10_keeps 5 = .ok (.aload_n 0, 1) := by decide +kernel
theorem dX10_keeps_6 : decode cX10_keeps 6 = .ok (.iload_n 1, 1) := by decide +kernel
theorem dX10_keeps_7 : decode cX10_keeps 7 = .ok (.invokevirtual 170, 3) := by decide +kernel
theorem dX10_keeps_10 : decode cX10_keeps 10 = .ok (.ifCond .eq 11, 3) := by decide +kernel
theorem dX10_keeps_13 : decode cX10_keeps 13 = .ok (.aload_n 0, 1) := by decide +kernel
theorem dX10_keeps_14 : decode cX10_keeps 14 = .ok (.iload_n 2, 1) := by decide +kernel
theorem dX10_keeps_15 : decode cX10_keeps 15 = .ok (.invokevirtual 183, 3) := by decide +kernel
theorem dX10_keeps_18 : decode cX10_keeps 18 = .ok (.ifCond .ne 5, 3) := by decide +kernel
theorem dX10_keeps_21 : decode cX10_keeps 21 = .ok (.iconst (-1), 1) := by decide +kernel
theorem dX10_keeps_22 : decode cX10_keeps 22 = .ok (.ireturn, 1) := by decide +kernel
theorem dX10_keeps_23 : decode cX10_keeps 23 = .ok (.aload_n 0, 1) := by decide +kernel
theorem dX10_keeps_24 : decode cX10_keeps 24 = .ok (.invokevirtual 275, 3) := by decide +kernel
theorem dX10_keeps_27 : decode cX10_keeps 27 = .ok (.aload_n 0, 1) := by decide +kernel
theorem dX10_keeps_28 : decode cX10_keeps 28 = .ok (.getfield 59, 3) := by decide +kernel
theorem dX10_keeps_31 : decode cX10_keeps 31 = .ok (.aload_n 0, 1) := by decide +kernel
theorem dX10_keeps_32 : decode cX10_keeps 32 = .ok (.iload_n 1, 1) := by decide +kernel
theorem dX10_keeps_33 : decode cX10_keeps 33 = .ok (.invokevirtual 177, 3) := by decide +kernel
theorem dX10_keeps_36 : decode cX10_keeps 36 = .ok (.iload_n 2, 1) := by decide +kernel
theorem dX10_keeps_37 : decode cX10_keeps 37 = .ok (.iand, 1) := by decide +kernel
theorem dX10_keeps_38 : decode cX10_keeps 38 = .ok (.iaload, 1) := by decide +kernel
theorem dX10_keeps_39 : decode cX10_keeps 39 = .ok (.ireturn, 1) := by decide +kernel
theorem dX10_is_0 : decode cX10_is 0 = .ok (.aload_n 0, 1) := by decide +kernel
theorem dX10_is_1 : decode cX10_is 1 = .ok (.iconst 0, 1) := by decide +kernel
theorem dX10_is_2 : decode cX10_is 2 = .ok (.putfield 90, 3) := by decide +kernel
theorem dX10_is_5 : decode cX10_is 5 = .ok (.aload_n 0, 1) := by decide +kernel
theorem dX10_is_6 : decode cX10_is 6 = .ok (.iload_n 1, 1) := by decide +kernel
theorem dX10_is_7 : decode cX10_is 7 = .ok (.invokevirtual 183, 3) := by decide +kernel
theorem dX10_is_10 : decode cX10_is 10 = .ok (.ifCond .eq 13, 3) := by decide +kernel
theorem dX10_is_13 : decode cX10_is 13 = .ok (.iload_n 2, 1) := by decide +kernel
theorem dX10_is_14 : decode cX10_is 14 = .ok (.i2l, 1) := by decide +kernel
theorem dX10_is_15 : decode cX10_is 15 = .ok (.lconst 0, 1) := by decide +kernel
theorem dX10_is_16 : decode cX10_is 16 = .ok (.lconst 1, 1) := by decide +kernel
theorem dX10_is_17 : decode cX10_is 17 = .ok (.invokestatic 93, 3) := by decide +kernel
theorem dX10_is_20 : decode cX10_is 20 = .ok (.ifCond .ne 5, 3) := by decide +kernel
theorem dX10_is_23 : decode cX10_is 23 = .ok (.iconst (-1), 1) := by decide +kernel
theorem dX10_is_24 : decode cX10_is 24 = .ok (.ireturn, 1) := by decide +kernel
theorem dX10_is_25 : decode cX10_is 25 = .ok (.aload_n 0, 1) := by decide +kernel
theorem dX10_is_26 : decode cX10_is 26 = .ok (.iload_n 1, 1) := by decide +kernel
theorem dX10_is_27 : decode cX10_is 27 = .ok (.iload_n 2, 1) := by decide +kernel
theorem dX10_is_28 : decode cX10_is 28 = .ok (.invokevirtual 294, 3) := by decide +kernel
theorem dX10_is_31 : decode cX10_is 31 = .ok (.ifCond .eq 7, 3) := by decide +kernel
theorem dX10_is_34 : decode cX10_is 34 = .ok (.iconst 1, 1) := by decide +kernel
theorem dX10_is_35 : decode cX10_is 35 = .ok (.goto 4, 3) := by decide +kernel
theorem dX10_is_38 : decode cX10_is 38 = .ok (.iconst 0, 1) := by decide +kernel
theorem dX10_is_39 : decode cX10_is 39 = .ok (.ireturn, 1) := by decide +kernel
theorem dX10_isSo_0 : decode cX10_isSo 0 = .ok (.iload_n 2, 1) := by decide +kernel
theorem dX10_isSo_1 : decode cX10_isSo 1 = .ok (.ifCond .ne 13, 3) := by decide +kernel
theorem dX10_isSo_4 : decode cX10_isSo 4 = .ok (.aload_n 0, 1) := by decide +kernel
theorem dX10_isSo_5 : decode cX10_isSo 5 = .ok (.iload_n 1, 1) := by decide +kernel
theorem dX10_isSo_6 : decode cX10_isSo 6 = .ok (.aload_n 0, 1) := by decide +kernel
theorem dX10_isSo_7 : decode cX10_isSo 7 = .ok (.invokevirtual 101, 3) := by decide +kernel
theorem dX10_isSo_10 : decode cX10_isSo 10 = .ok (.invokevirtual 221, 3) := by decide +kernel
theorem dX10_isSo_13 : decode cX10_isSo 13 = .ok (.ireturn, 1) := by decide +kernel
theorem dX10_isSo_14 : decode cX10_isSo 14 = .ok (.aload_n 0, 1) := by decide +kernel
theorem dX10_isSo_15 : decode cX10_isSo 15 = .ok (.invokevirtual 275, 3) := by decide +kernel
theorem dX10_isSo_18 : decode cX10_isSo 18 = .ok (.aload_n 0, 1) := by decide +kernel
theorem dX10_isSo_19 : decode cX10_isSo 19 = .ok (.iload_n 1, 1) := by decide +kernel
theorem dX10_isSo_20 : decode cX10_isSo 20 = .ok (.invokevirtual 297, 3) := by decide +kernel
theorem dX10_isSo_23 : decode cX10_isSo 23 = .ok (.ireturn, 1) := by decide +kernel
theorem dX10_wins_0 : decode cX10_wins 0 = .ok (.aload_n 0, 1) := by decide +kernel
theorem dX10_wins_1 : decode cX10_wins 1 = .ok (.invokevirtual 193, 3) := by decide +kernel
theorem dX10_wins_4 : decode cX10_wins 4 = .ok (.istore_n 1, 1) := by decide +kernel
theorem dX10_wins_5 : decode cX10_wins 5 = .ok (.iconst 0, 1) := by decide +kernel
theorem dX10_wins_6 : decode cX10_wins 6 = .ok (.istore_n 2, 1) := by decide +kernel
theorem dX10_wins_7 : decode cX10_wins 7 = .ok (.iload_n 2, 1) := by decide +kernel
theorem dX10_wins_8 : decode cX10_wins 8 = .ok (.iload_n 1, 1) := by decide +kernel
theorem dX10_wins_9 : decode cX10_wins 9 = .ok (.if_icmp .ge 21, 3) := by decide +kernel
theorem dX10_wins_12 : decode cX10_wins 12 = .ok (.aload_n 0, 1) := by decide +kernel
theorem dX10_wins_13 : decode cX10_wins 13 = .ok (.getfield 74, 3) := by decide +kernel
theorem dX10_wins_16 : decode cX10_wins 16 = .ok (.iload_n 2, 1) := by decide +kernel
theorem dX10_wins_17 : decode cX10_wins 17 = .ok (.aload_n 0, 1) := by decide +kernel
theorem dX10_wins_18 : decode cX10_wins 18 = .ok (.getfield 71, 3) := by decide +kernel
theorem dX10_wins_21 : decode cX10_wins 21 = .ok (.iload_n 2, 1) := by decide +kernel
theorem dX10_wins_22 : decode cX10_wins 22 = .ok (.iaload, 1) := by decide +kernel
theorem dX10_wins_23 : decode cX10_wins 23 = .ok (.iastore, 1) := by decide +kernel
theorem dX10_wins_24 : decode cX10_wins 24 = .ok (.iinc 2 1, 3) := by decide +kernel
theorem dX10_wins_27 : decode cX10_wins 27 = .ok (.goto (-20), 3) := by decide +kernel
theorem dX10_wins_30 : decode cX10_wins 30 = .ok (.iload_n 1, 1) := by decide +kernel
theorem dX10_wins_31 : decode cX10_wins 31 = .ok (.iconst 1, 1) := by decide +kernel
theorem dX10_wins_32 : decode cX10_wins 32 = .ok (.if_icmp .le 69, 3) := by decide +kernel
theorem dX10_wins_35 : decode cX10_wins 35 = .ok (.iload_n 1, 1) := by decide +kernel
theorem dX10_wins_36 : decode cX10_wins 36 = .ok (.iconst 2, 1) := by decide +kernel
theorem dX10_wins_37 : decode cX10_wins 37 = .ok (.idiv, 1) := by decide +kernel
theorem dX10_wins_38 : decode cX10_wins 38 = .ok (.istore_n 1, 1) := by decide +kernel
theorem dX10_wins_39 : decode cX10_wins 39 = .ok (.iconst 0, 1) := by decide +kernel
theorem dX10_wins_40 : decode cX10_wins 40 = .ok (.istore_n 2, 1) := by decide +kernel
theorem dX10_wins_41 : decode cX10_wins 41 = .ok (.iload_n 2, 1) := by decide +kernel
theorem dX10_wins_42 : decode cX10_wins 42 = .ok (.iload_n 1, 1) := by decide +kernel
theorem dX10_wins_43 : decode cX10_wins 43 = .ok (.if_icmp .ge 55, 3) := by decide +kernel
theorem dX10_wins_46 : decode cX10_wins 46 = .ok (.aload_n 0, 1) := by decide +kernel
theorem dX10_wins_47 : decode cX10_wins 47 = .ok (.getfield 74, 3) := by decide +kernel
theorem dX10_wins_50 : decode cX10_wins 50 = .ok (.iconst 2, 1) := by decide +kernel
theorem dX10_wins_51 : decode cX10_wins 51 = .ok (.iload_n 2, 1) := by decide +kernel
theorem dX10_wins_52 : decode cX10_wins 52 = .ok (.imul, 1) := by decide +kernel
theorem dX10_wins_53 : decode cX10_wins 53 = .ok (.iaload, 1) := by decide +kernel
theorem dX10_wins_54 : decode cX10_wins 54 = .ok (.istore_n 3, 1) := by decide +kernel
theorem dX10_wins_55 : decode cX10_wins 55 = .ok (.aload_n 0, 1) := by decide +kernel
theorem dX10_wins_56 : decode cX10_wins 56 = .ok (.getfield 74, 3) := by decide +kernel
theorem dX10_wins_59 : decode cX10_wins 59 = .ok (.iconst 2, 1) := by decide +kernel
theorem dX10_wins_60 : decode cX10_wins 60 = .ok (.iload_n 2, 1) := by decide +kernel
theorem dX10_wins_61 : decode cX10_wins 61 = .ok (.imul, 1) := by decide +kernel
theorem dX10_wins_62 : decode cX10_wins 62 = .ok (.iconst 1, 1) := by decide +kernel
theorem dX10_wins_63 : decode cX10_wins 63 = .ok (.iadd, 1) := by decide +kernel
theorem dX10_wins_64 : decode cX10_wins 64 = .ok (.iaload, 1) := by decide +kernel
theorem dX10_wins_65 : decode cX10_wins 65 = .ok (.istore 4, 2) := by decide +kernel
theorem dX10_wins_67 : decode cX10_wins 67 = .ok (.aload_n 0, 1) := by decide +kernel
theorem dX10_wins_68 : decode cX10_wins 68 = .ok (.getfield 74, 3) := by decide +kernel
theorem dX10_wins_71 : decode cX10_wins 71 = .ok (.iload_n 2, 1) := by decide +kernel
theorem dX10_wins_72 : decode cX10_wins 72 = .ok (.aload_n 0, 1) := by decide +kernel
theorem dX10_wins_73 : decode cX10_wins 73 = .ok (.iload_n 3, 1) := by decide +kernel
theorem dX10_wins_74 : decode cX10_wins 74 = .ok (.invokevirtual 166, 3) := by decide +kernel
theorem dX10_wins_77 : decode cX10_wins 77 = .ok (.iload 4, 2) := by decide +kernel
theorem dX10_wins_79 : decode cX10_wins 79 = .ok (.invokestatic 146, 3) := by decide +kernel
theorem dX10_wins_82 : decode cX10_wins 82 = .ok (.ifCond .eq 7, 3) := by decide +kernel
theorem dX10_wins_85 : decode cX10_wins 85 = .ok (.iload_n 3, 1) := by decide +kernel
theorem dX10_wins_86 : decode cX10_wins 86 = .ok (.goto 5, 3) := by decide +kernel
theorem dX10_wins_89 : decode cX10_wins 89 = .ok (.iload 4, 2) := by decide +kernel
theorem dX10_wins_91 : decode cX10_wins 91 = .ok (.iastore, 1) := by decide +kernel
theorem dX10_wins_92 : decode cX10_wins 92 = .ok (.iinc 2 1, 3) := by decide +kernel
theorem dX10_wins_95 : decode cX10_wins 95 = .ok (.goto (-54), 3) := by decide +kernel
theorem dX10_wins_98 : decode cX10_wins 98 = .ok (.goto (-68), 3) := by decide +kernel
theorem dX10_wins_101 : decode cX10_wins 101 = .ok (.aload_n 0, 1) := by decide +kernel
theorem dX10_wins_102 : decode cX10_wins 102 = .ok (.getfield 74, 3) := by decide +kernel
theorem dX10_wins_105 : decode cX10_wins 105 = .ok (.iconst 0, 1) := by decide +kernel
theorem dX10_wins_106 : decode cX10_wins 106 = .ok (.iaload, 1) := by decide +kernel
theorem dX10_wins_107 : decode cX10_wins 107 = .ok (.ireturn, 1) := by decide +kernel
theorem dX10_firstOrder_0 : decode cX10_firstOrder 0 = .ok (.iconst 0, 1) := by decide +kernel
theorem dX10_firstOrder_1 : decode cX10_firstOrder 1 = .ok (.istore_n 1, 1) := by decide +kernel
theorem dX10_firstOrder_2 : decode cX10_firstOrder 2 = .ok (.iload_n 1, 1) := by decide +kernel
theorem dX10_firstOrder_3 : decode cX10_firstOrder 3 = .ok (.bipush 8, 2) := by decide +kernel
theorem dX10_firstOrder_5 : decode cX10_firstOrder 5 = .ok (.if_icmp .ge 16, 3) := by decide +kernel
theorem dX10_firstOrder_8 : decode cX10_firstOrder 8 = .ok (.aload_n 0, 1) := by decide +kernel
theorem dX10_firstOrder_9 : decode cX10_firstOrder 9 = .ok (.getfield 71, 3) := by decide +kernel
theorem dX10_firstOrder_12 : decode cX10_firstOrder 12 = .ok (.iload_n 1, 1) := by decide +kernel
theorem dX10_firstOrder_13 : decode cX10_firstOrder 13 = .ok (.iload_n 1, 1) := by decide +kernel
theorem dX10_firstOrder_14 : decode cX10_firstOrder 14 = .ok (.iastore, 1) := by decide +kernel
theorem dX10_firstOrder_15 : decode cX10_firstOrder 15 = .ok (.iinc 1 1, 3) := by decide +kernel
theorem dX10_firstOrder_18 : decode cX10_firstOrder 18 = .ok (.goto (-16), 3) := by decide +kernel
theorem dX10_firstOrder_21 : decode cX10_firstOrder 21 = .ok (.return_, 1) := by decide +kernel
theorem dX10_swap_0 : decode cX10_swap 0 = .ok (.aload_n 0, 1) := by decide +kernel
theorem dX10_swap_1 : decode cX10_swap 1 = .ok (.getfield 71, 3) := by decide +kernel
theorem dX10_swap_4 : decode cX10_swap 4 = .ok (.iload_n 1, 1) := by decide +kernel
theorem dX10_swap_5 : decode cX10_swap 5 = .ok (.iaload, 1) := by decide +kernel
theorem dX10_swap_6 : decode cX10_swap 6 = .ok (.istore_n 3, 1) := by decide +kernel
theorem dX10_swap_7 : decode cX10_swap 7 = .ok (.aload_n 0, 1) := by decide +kernel
theorem dX10_swap_8 : decode cX10_swap 8 = .ok (.getfield 71, 3) := by decide +kernel
theorem dX10_swap_11 : decode cX10_swap 11 = .ok (.iload_n 1, 1) := by decide +kernel
theorem dX10_swap_12 : decode cX10_swap 12 = .ok (.aload_n 0, 1) := by decide +kernel
theorem dX10_swap_13 : decode cX10_swap 13 = .ok (.getfield 71, 3) := by decide +kernel
theorem dX10_swap_16 : decode cX10_swap 16 = .ok (.iload_n 2, 1) := by decide +kernel
theorem dX10_swap_17 : decode cX10_swap 17 = .ok (.iaload, 1) := by decide +kernel
theorem dX10_swap_18 : decode cX10_swap 18 = .ok (.iastore, 1) := by decide +kernel
theorem dX10_swap_19 : decode cX10_swap 19 = .ok (.aload_n 0, 1) := by decide +kernel
theorem dX10_swap_20 : decode cX10_swap 20 = .ok (.getfield 71, 3) := by decide +kernel
theorem dX10_swap_23 : decode cX10_swap 23 = .ok (.iload_n 2, 1) := by decide +kernel
theorem dX10_swap_24 : decode cX10_swap 24 = .ok (.iload_n 3, 1) := by decide +kernel
theorem dX10_swap_25 : decode cX10_swap 25 = .ok (.iastore, 1) := by decide +kernel
theorem dX10_swap_26 : decode cX10_swap 26 = .ok (.return_, 1) := by decide +kernel
theorem dX10_nextOrder_0 : decode cX10_nextOrder 0 = .ok (.aload_n 0, 1) := by decide +kernel
theorem dX10_nextOrder_1 : decode cX10_nextOrder 1 = .ok (.invokevirtual 193, 3) := by decide +kernel
theorem dX10_nextOrder_4 : decode cX10_nextOrder 4 = .ok (.istore_n 1, 1) := by decide +kernel
theorem dX10_nextOrder_5 : decode cX10_nextOrder 5 = .ok (.iload_n 1, 1) := by decide +kernel
theorem dX10_nextOrder_6 : decode cX10_nextOrder 6 = .ok (.iconst 2, 1) := by decide +kernel
theorem dX10_nextOrder_7 : decode cX10_nextOrder 7 = .ok (.isub, 1) := by decide +kernel
theorem dX10_nextOrder_8 : decode cX10_nextOrder 8 = .ok (.istore_n 2, 1) := by decide +kernel
theorem dX10_nextOrder_9 : decode cX10_nextOrder 9 = .ok (.iload_n 2, 1) := by decide +kernel
theorem dX10_nextOrder_10 : decode cX10_nextOrder 10 = .ok (.ifCond .lt 26, 3) := by decide +kernel
theorem dX10_nextOrder_13 : decode cX10_nextOrder 13 = .ok (.aload_n 0, 1) := by decide +kernel
theorem dX10_nextOrder_14 : decode cX10_nextOrder 14 = .ok (.getfield 71, 3) := by decide +kernel
theorem dX10_nextOrder_17 : decode cX10_nextOrder 17 = .ok (.iload_n 2, 1) := by decide +kernel
theorem dX10_nextOrder_18 : decode cX10_nextOrder 18 = .ok (.iaload, 1) := by decide +kernel
theorem dX10_nextOrder_19 : decode cX10_nextOrder 19 = .ok (.aload_n 0, 1) := by decide +kernel
theorem dX10_nextOrder_20 : decode cX10_nextOrder 20 = .ok (.getfield 71, 3) := by decide +kernel
theorem dX10_nextOrder_23 : decode cX10_nextOrder 23 = .ok (.iload_n 2, 1) := by decide +kernel
theorem dX10_nextOrder_24 : decode cX10_nextOrder 24 = .ok (.iconst 1, 1) := by decide +kernel
theorem dX10_nextOrder_25 : decode cX10_nextOrder 25 = .ok (.iadd, 1) := by decide +kernel
theorem dX10_nextOrder_26 : decode cX10_nextOrder 26 = .ok (.iaload, 1) := by decide +kernel
theorem dX10_nextOrder_27 : decode cX10_nextOrder 27 = .ok (.if_icmp .le 9, 3) := by decide +kernel
theorem dX10_nextOrder_30 : decode cX10_nextOrder 30 = .ok (.iinc 2 (-1), 3) := by decide +kernel
theorem dX10_nextOrder_33 : decode cX10_nextOrder 33 = .ok (.goto (-24), 3) := by decide +kernel
theorem dX10_nextOrder_36 : decode cX10_nextOrder 36 = .ok (.iload_n 2, 1) := by decide +kernel
theorem dX10_nextOrder_37 : decode cX10_nextOrder 37 = .ok (.ifCond .ge 5, 3) := by decide +kernel
theorem dX10_nextOrder_40 : decode cX10_nextOrder 40 = .ok (.iconst 0, 1) := by decide +kernel
theorem dX10_nextOrder_41 : decode cX10_nextOrder 41 = .ok (.ireturn, 1) := by decide +kernel
theorem dX10_nextOrder_42 : decode cX10_nextOrder 42 = .ok (.iload_n 1, 1) := by decide +kernel
theorem dX10_nextOrder_43 : decode cX10_nextOrder 43 = .ok (.iconst 1, 1) := by decide +kernel
theorem dX10_nextOrder_44 : decode cX10_nextOrder 44 = .ok (.isub, 1) := by decide +kernel
theorem dX10_nextOrder_45 : decode cX10_nextOrder 45 = .ok (.istore_n 3, 1) := by decide +kernel
theorem dX10_nextOrder_46 : decode cX10_nextOrder 46 = .ok (.aload_n 0, 1) := by decide +kernel
theorem dX10_nextOrder_47 : decode cX10_nextOrder 47 = .ok (.getfield 71, 3) := by decide +kernel
theorem dX10_nextOrder_50 : decode cX10_nextOrder 50 = .ok (.iload_n 3, 1) := by decide +kernel
theorem dX10_nextOrder_51 : decode cX10_nextOrder 51 = .ok (.iaload, 1) := by decide +kernel
theorem dX10_nextOrder_52 : decode cX10_nextOrder 52 = .ok (.aload_n 0, 1) := by decide +kernel
theorem dX10_nextOrder_53 : decode cX10_nextOrder 53 = .ok (.getfield 71, 3) := by decide +kernel
theorem dX10_nextOrder_56 : decode cX10_nextOrder 56 = .ok (.iload_n 2, 1) := by decide +kernel
theorem dX10_nextOrder_57 : decode cX10_nextOrder 57 = .ok (.iaload, 1) := by decide +kernel
theorem dX10_nextOrder_58 : decode cX10_nextOrder 58 = .ok (.if_icmp .ge 9, 3) := by decide +kernel
theorem dX10_nextOrder_61 : decode cX10_nextOrder 61 = .ok (.iinc 3 (-1), 3) := by decide +kernel
theorem dX10_nextOrder_64 : decode cX10_nextOrder 64 = .ok (.goto (-18), 3) := by decide +kernel
theorem dX10_nextOrder_67 : decode cX10_nextOrder 67 = .ok (.aload_n 0, 1) := by decide +kernel
theorem dX10_nextOrder_68 : decode cX10_nextOrder 68 = .ok (.iload_n 2, 1) := by decide +kernel
theorem dX10_nextOrder_69 : decode cX10_nextOrder 69 = .ok (.iload_n 3, 1) := by decide +kernel
theorem dX10_nextOrder_70 : decode cX10_nextOrder 70 = .ok (.invokevirtual 300, 3) := by decide +kernel
theorem dX10_nextOrder_73 : decode cX10_nextOrder 73 = .ok (.iload_n 2, 1) := by decide +kernel
theorem dX10_nextOrder_74 : decode cX10_nextOrder 74 = .ok (.iconst 1, 1) := by decide +kernel
theorem dX10_nextOrder_75 : decode cX10_nextOrder 75 = .ok (.iadd, 1) := by decide +kernel
theorem dX10_nextOrder_76 : decode cX10_nextOrder 76 = .ok (.istore 4, 2) := by decide +kernel
theorem dX10_nextOrder_78 : decode cX10_nextOrder 78 = .ok (.iload_n 1, 1) := by decide +kernel
theorem dX10_nextOrder_79 : decode cX10_nextOrder 79 = .ok (.iconst 1, 1) := by decide +kernel
theorem dX10_nextOrder_80 : decode cX10_nextOrder 80 = .ok (.isub, 1) := by decide +kernel
theorem dX10_nextOrder_81 : decode cX10_nextOrder 81 = .ok (.istore 5, 2) := by decide +kernel
theorem dX10_nextOrder_83 : decode cX10_nextOrder 83 = .ok (.iload 4, 2) := by decide +kernel
theorem dX10_nextOrder_85 : decode cX10_nextOrder 85 = .ok (.iload 5, 2) := by decide +kernel
theorem dX10_nextOrder_87 : decode cX10_nextOrder 87 = .ok (.if_icmp .ge 20, 3) := by decide +kernel
theorem dX10_nextOrder_90 : decode cX10_nextOrder 90 = .ok (.aload_n 0, 1) := by decide +kernel
theorem dX10_nextOrder_91 : decode cX10_nextOrder 91 = .ok (.iload 4, 2) := by decide +kernel
theorem dX10_nextOrder_93 : decode cX10_nextOrder 93 = .ok (.iload 5, 2) := by decide +kernel
theorem dX10_nextOrder_95 : decode cX10_nextOrder 95 = .ok (.invokevirtual 300, 3) := by decide +kernel
theorem dX10_nextOrder_98 : decode cX10_nextOrder 98 = .ok (.iinc 5 (-1), 3) := by decide +kernel
theorem dX10_nextOrder_101 : decode cX10_nextOrder 101 = .ok (.iinc 4 1, 3) := by decide +kernel
theorem dX10_nextOrder_104 : decode cX10_nextOrder 104 = .ok (.goto (-21), 3) := by decide +kernel
theorem dX10_nextOrder_107 : decode cX10_nextOrder 107 = .ok (.iconst 1, 1) := by decide +kernel
theorem dX10_nextOrder_108 : decode cX10_nextOrder 108 = .ok (.ireturn, 1) := by decide +kernel
theorem dX10_cup_0 : decode cX10_cup 0 = .ok (.aload_n 0, 1) := by decide +kernel
theorem dX10_cup_1 : decode cX10_cup 1 = .ok (.iconst 0, 1) := by decide +kernel
theorem dX10_cup_2 : decode cX10_cup 2 = .ok (.putfield 90, 3) := by decide +kernel
theorem dX10_cup_5 : decode cX10_cup 5 = .ok (.aload_n 0, 1) := by decide +kernel
theorem dX10_cup_6 : decode cX10_cup 6 = .ok (.iload_n 1, 1) := by decide +kernel
theorem dX10_cup_7 : decode cX10_cup 7 = .ok (.invokevirtual 170, 3) := by decide +kernel
theorem dX10_cup_10 : decode cX10_cup 10 = .ok (.ifCond .eq 21, 3) := by decide +kernel
theorem dX10_cup_13 : decode cX10_cup 13 = .ok (.iload_n 2, 1) := by decide +kernel
theorem dX10_cup_14 : decode cX10_cup 14 = .ok (.i2l, 1) := by decide +kernel
theorem dX10_cup_15 : decode cX10_cup 15 = .ok (.ldc2_w 286, 3) := by decide +kernel
theorem dX10_cup_18 : decode cX10_cup 18 = .ok (.aload_n 0, 1) := by decide +kernel
theorem dX10_cup_19 : decode cX10_cup 19 = .ok (.invokevirtual 193, 3) := by decide +kernel
theorem dX10_cup_22 : decode cX10_cup 22 = .ok (.i2l, 1) := by decide +kernel
theorem dX10_cup_23 : decode cX10_cup 23 = .ok (.lconst 1, 1) := by decide +kernel
theorem dX10_cup_24 : decode cX10_cup 24 = .ok (.lsub, 1) := by decide +kernel
theorem dX10_cup_25 : decode cX10_cup 25 = .ok (.invokestatic 93, 3) := by decide +kernel
theorem dX10_cup_28 : decode cX10_cup 28 = .ok (.ifCond .ne 5, 3) := by decide +kernel
theorem dX10_cup_31 : decode cX10_cup 31 = .ok (.iconst (-1), 1) := by decide +kernel
theorem dX10_cup_32 : decode cX10_cup 32 = .ok (.ireturn, 1) := by decide +kernel
theorem dX10_cup_33 : decode cX10_cup 33 = .ok (.aload_n 0, 1) := by decide +kernel
theorem dX10_cup_34 : decode cX10_cup 34 = .ok (.invokevirtual 193, 3) := by decide +kernel
theorem dX10_cup_37 : decode cX10_cup 37 = .ok (.invokestatic 248, 3) := by decide +kernel
theorem dX10_cup_40 : decode cX10_cup 40 = .ok (.ifCond .ne 6, 3) := by decide +kernel
theorem dX10_cup_43 : decode cX10_cup 43 = .ok (.bipush (-3), 2) := by decide +kernel
theorem dX10_cup_45 : decode cX10_cup 45 = .ok (.ireturn, 1) := by decide +kernel
theorem dX10_cup_46 : decode cX10_cup 46 = .ok (.iload_n 2, 1) := by decide +kernel
theorem dX10_cup_47 : decode cX10_cup 47 = .ok (.iconst (-1), 1) := by decide +kernel
theorem dX10_cup_48 : decode cX10_cup 48 = .ok (.if_icmp .ne 22, 3) := by decide +kernel
theorem dX10_cup_51 : decode cX10_cup 51 = .ok (.aload_n 0, 1) := by decide +kernel
theorem dX10_cup_52 : decode cX10_cup 52 = .ok (.invokevirtual 251, 3) := by decide +kernel
theorem dX10_cup_55 : decode cX10_cup 55 = .ok (.aload_n 0, 1) := by decide +kernel
theorem dX10_cup_56 : decode cX10_cup 56 = .ok (.getfield 65, 3) := by decide +kernel
theorem dX10_cup_59 : decode cX10_cup 59 = .ok (.bipush 8, 2) := by decide +kernel
theorem dX10_cup_61 : decode cX10_cup 61 = .ok (.aload_n 0, 1) := by decide +kernel
theorem dX10_cup_62 : decode cX10_cup 62 = .ok (.invokevirtual 101, 3) := by decide +kernel
theorem dX10_cup_65 : decode cX10_cup 65 = .ok (.imul, 1) := by decide +kernel
theorem dX10_cup_66 : decode cX10_cup 66 = .ok (.iload_n 1, 1) := by decide +kernel
theorem dX10_cup_67 : decode cX10_cup 67 = .ok (.iadd, 1) := by decide +kernel
theorem dX10_cup_68 : decode cX10_cup 68 = .ok (.iaload, 1) := by decide +kernel
theorem dX10_cup_69 : decode cX10_cup 69 = .ok (.ireturn, 1) := by decide +kernel
theorem dX10_cup_70 : decode cX10_cup 70 = .ok (.aload_n 0, 1) := by decide +kernel
theorem dX10_cup_71 : decode cX10_cup 71 = .ok (.invokevirtual 303, 3) := by decide +kernel
theorem dX10_cup_74 : decode cX10_cup 74 = .ok (.iconst 1, 1) := by decide +kernel
theorem dX10_cup_75 : decode cX10_cup 75 = .ok (.istore_n 3, 1) := by decide +kernel
theorem dX10_cup_76 : decode cX10_cup 76 = .ok (.iload_n 3, 1) := by decide +kernel
theorem dX10_cup_77 : decode cX10_cup 77 = .ok (.ifCond .eq 19, 3) := by decide +kernel
theorem dX10_cup_80 : decode cX10_cup 80 = .ok (.aload_n 0, 1) := by decide +kernel
theorem dX10_cup_81 : decode cX10_cup 81 = .ok (.invokevirtual 306, 3) := by decide +kernel
theorem dX10_cup_84 : decode cX10_cup 84 = .ok (.iload_n 1, 1) := by decide +kernel
theorem dX10_cup_85 : decode cX10_cup 85 = .ok (.if_icmp .eq 11, 3) := by decide +kernel
theorem dX10_cup_88 : decode cX10_cup 88 = .ok (.aload_n 0, 1) := by decide +kernel
theorem dX10_cup_89 : decode cX10_cup 89 = .ok (.invokevirtual 309, 3) := by decide +kernel
theorem dX10_cup_92 : decode cX10_cup 92 = .ok (.istore_n 3, 1) := by decide +kernel
theorem dX10_cup_93 : decode cX10_cup 93 = .ok (.goto (-17), 3) := by decide +kernel
theorem dX10_cup_96 : decode cX10_cup 96 = .ok (.iload_n 3, 1) := by decide +kernel
theorem dX10_cup_97 : decode cX10_cup 97 = .ok (.ifCond .eq 12, 3) := by decide +kernel
theorem dX10_cup_100 : decode cX10_cup 100 = .ok (.aload_n 0, 1) := by decide +kernel
theorem dX10_cup_101 : decode cX10_cup 101 = .ok (.getfield 71, 3) := by decide +kernel
theorem dX10_cup_104 : decode cX10_cup 104 = .ok (.iload_n 2, 1) := by decide +kernel
theorem dX10_cup_105 : decode cX10_cup 105 = .ok (.iaload, 1) := by decide +kernel
theorem dX10_cup_106 : decode cX10_cup 106 = .ok (.goto 5, 3) := by decide +kernel
theorem dX10_cup_109 : decode cX10_cup 109 = .ok (.bipush (-3), 2) := by decide +kernel
theorem dX10_cup_111 : decode cX10_cup 111 = .ok (.ireturn, 1) := by decide +kernel
theorem dX10_winner_0 : decode cX10_winner 0 = .ok (.aload_n 0, 1) := by decide +kernel
theorem dX10_winner_1 : decode cX10_winner 1 = .ok (.iconst 0, 1) := by decide +kernel
theorem dX10_winner_2 : decode cX10_winner 2 = .ok (.putfield 90, 3) := by decide +kernel
theorem dX10_winner_5 : decode cX10_winner 5 = .ok (.aload_n 0, 1) := by decide +kernel
theorem dX10_winner_6 : decode cX10_winner 6 = .ok (.iload_n 1, 1) := by decide +kernel
theorem dX10_winner_7 : decode cX10_winner 7 = .ok (.invokevirtual 183, 3) := by decide +kernel
theorem dX10_winner_10 : decode cX10_winner 10 = .ok (.ifCond .ne 5, 3) := by decide +kernel
theorem dX10_winner_13 : decode cX10_winner 13 = .ok (.iconst (-1), 1) := by decide +kernel
theorem dX10_winner_14 : decode cX10_winner 14 = .ok (.ireturn, 1) := by decide +kernel
theorem dX10_winner_15 : decode cX10_winner 15 = .ok (.aload_n 0, 1) := by decide +kernel
theorem dX10_winner_16 : decode cX10_winner 16 = .ok (.invokevirtual 193, 3) := by decide +kernel
theorem dX10_winner_19 : decode cX10_winner 19 = .ok (.invokestatic 248, 3) := by decide +kernel
theorem dX10_winner_22 : decode cX10_winner 22 = .ok (.ifCond .ne 6, 3) := by decide +kernel
theorem dX10_winner_25 : decode cX10_winner 25 = .ok (.bipush (-3), 2) := by decide +kernel
theorem dX10_winner_27 : decode cX10_winner 27 = .ok (.ireturn, 1) := by decide +kernel
theorem dX10_winner_28 : decode cX10_winner 28 = .ok (.iconst 0, 1) := by decide +kernel
theorem dX10_winner_29 : decode cX10_winner 29 = .ok (.istore_n 2, 1) := by decide +kernel
theorem dX10_winner_30 : decode cX10_winner 30 = .ok (.iconst 0, 1) := by decide +kernel
theorem dX10_winner_31 : decode cX10_winner 31 = .ok (.istore_n 3, 1) := by decide +kernel
theorem dX10_winner_32 : decode cX10_winner 32 = .ok (.iload_n 3, 1) := by decide +kernel
theorem dX10_winner_33 : decode cX10_winner 33 = .ok (.iconst 2, 1) := by decide +kernel
theorem dX10_winner_34 : decode cX10_winner 34 = .ok (.if_icmp .ge 56, 3) := by decide +kernel
theorem dX10_winner_37 : decode cX10_winner 37 = .ok (.iconst 0, 1) := by decide +kernel
theorem dX10_winner_38 : decode cX10_winner 38 = .ok (.istore 4, 2) := by decide +kernel
theorem dX10_winner_40 : decode cX10_winner 40 = .ok (.iload 4, 2) := by decide +kernel
theorem dX10_winner_42 : decode cX10_winner 42 = .ok (.aload_n 0, 1) := by decide +kernel
theorem dX10_winner_43 : decode cX10_winner 43 = .ok (.invokevirtual 193, 3) := by decide +kernel
theorem dX10_winner_46 : decode cX10_winner 46 = .ok (.if_icmp .ge 38, 3) := by decide +kernel
theorem dX10_winner_49 : decode cX10_winner 49 = .ok (.iload_n 1, 1) := by decide +kernel
theorem dX10_winner_50 : decode cX10_winner 50 = .ok (.iload 4, 2) := by decide +kernel
theorem dX10_winner_52 : decode cX10_winner 52 = .ok (.invokestatic 146, 3) := by decide +kernel
theorem dX10_winner_55 : decode cX10_winner 55 = .ok (.iload_n 3, 1) := by decide +kernel
theorem dX10_winner_56 : decode cX10_winner 56 = .ok (.ifCond .ne 7, 3) := by decide +kernel
theorem dX10_winner_59 : decode cX10_winner 59 = .ok (.iconst 1, 1) := by decide +kernel
theorem dX10_winner_60 : decode cX10_winner 60 = .ok (.goto 4, 3) := by decide +kernel
theorem dX10_winner_63 : decode cX10_winner 63 = .ok (.iconst 0, 1) := by decide +kernel
theorem dX10_winner_64 : decode cX10_winner 64 = .ok (.if_icmp .ne 14, 3) := by decide +kernel
theorem dX10_winner_67 : decode cX10_winner 67 = .ok (.aload_n 0, 1) := by decide +kernel
theorem dX10_winner_68 : decode cX10_winner 68 = .ok (.getfield 71, 3) := by decide +kernel
theorem dX10_winner_71 : decode cX10_winner 71 = .ok (.iload_n 2, 1) := by decide +kernel
theorem dX10_winner_72 : decode cX10_winner 72 = .ok (.iload 4, 2) := by decide +kernel
theorem dX10_winner_74 : decode cX10_winner 74 = .ok (.iastore, 1) := by decide +kernel
theorem dX10_winner_75 : decode cX10_winner 75 = .ok (.iinc 2 1, 3) := by decide +kernel
theorem dX10_winner_78 : decode cX10_winner 78 = .ok (.iinc 4 1, 3) := by decide +kernel
theorem dX10_winner_81 : decode cX10_winner 81 = .ok (.goto (-41), 3) := by decide +kernel
theorem dX10_winner_84 : decode cX10_winner 84 = .ok (.iinc 3 1, 3) := by decide +kernel
theorem dX10_winner_87 : decode cX10_winner 87 = .ok (.goto (-55), 3) := by decide +kernel
theorem dX10_winner_90 : decode cX10_winner 90 = .ok (.aload_n 0, 1) := by decide +kernel
theorem dX10_winner_91 : decode cX10_winner 91 = .ok (.invokevirtual 306, 3) := by decide +kernel
theorem dX10_winner_94 : decode cX10_winner 94 = .ok (.ireturn, 1) := by decide +kernel
theorem dX10_addLetter_0 : decode cX10_addLetter 0 = .ok (.aload_n 0, 1) := by decide +kernel
theorem dX10_addLetter_1 : decode cX10_addLetter 1 = .ok (.invokevirtual 139, 3) := by decide +kernel
theorem dX10_addLetter_4 : decode cX10_addLetter 4 = .ok (.istore_n 1, 1) := by decide +kernel
theorem dX10_addLetter_5 : decode cX10_addLetter 5 = .ok (.aload_n 0, 1) := by decide +kernel
theorem dX10_addLetter_6 : decode cX10_addLetter 6 = .ok (.getfield 115, 3) := by decide +kernel
theorem dX10_addLetter_9 : decode cX10_addLetter 9 = .ok (.ifCond .eq 23, 3) := by decide +kernel
theorem dX10_addLetter_12 : decode cX10_addLetter 12 = .ok (.aload_n 0, 1) := by decide +kernel
theorem dX10_addLetter_13 : decode cX10_addLetter 13 = .ok (.getfield 77, 3) := by decide +kernel
theorem dX10_addLetter_16 : decode cX10_addLetter 16 = .ok (.aload_n 0, 1) := by decide +kernel
theorem dX10_addLetter_17 : decode cX10_addLetter 17 = .ok (.getfield 312, 3) := by decide +kernel
theorem dX10_addLetter_20 : decode cX10_addLetter 20 = .ok (.iload_n 1, 1) := by decide +kernel
theorem dX10_addLetter_21 : decode cX10_addLetter 21 = .ok (.iastore, 1) := by decide +kernel
theorem dX10_addLetter_22 : decode cX10_addLetter 22 = .ok (.aload_n 0, 1) := by decide +kernel
theorem dX10_addLetter_23 : decode cX10_addLetter 23 = .ok (.dup, 1) := by decide +kernel
theorem dX10_addLetter_24 : decode cX10_addLetter 24 = .ok (.getfield 312, 3) := by decide +kernel
theorem dX10_addLetter_27 : decode cX10_addLetter 27 = .ok (.iconst 1, 1) := by decide +kernel
theorem dX10_addLetter_28 : decode cX10_addLetter 28 = .ok (.iadd, 1) := by decide +kernel
theorem dX10_addLetter_29 : decode cX10_addLetter 29 = .ok (.putfield 312, 3) := by decide +kernel
theorem dX10_addLetter_32 : decode cX10_addLetter 32 = .ok (.return_, 1) := by decide +kernel
theorem dX10_isDigitNext_0 : decode cX10_isDigitNext 0 = .ok (.aload_n 0, 1) := by decide +kernel
theorem dX10_isDigitNext_1 : decode cX10_isDigitNext 1 = .ok (.getfield 115, 3) := by decide +kernel
theorem dX10_isDigitNext_4 : decode cX10_isDigitNext 4 = .ok (.ifCond .eq 35, 3) := by decide +kernel
theorem dX10_isDigitNext_7 : decode cX10_isDigitNext 7 = .ok (.aload_n 0, 1) := by decide +kernel
theorem dX10_isDigitNext_8 : decode cX10_isDigitNext 8 = .ok (.invokevirtual 125, 3) := by decide +kernel
theorem dX10_isDigitNext_11 : decode cX10_isDigitNext 11 = .ok (.i2l, 1) := by decide +kernel
theorem dX10_isDigitNext_12 : decode cX10_isDigitNext 12 = .ok (.ldc2_w 315, 3) := by decide +kernel
theorem dX10_isDigitNext_15 : decode cX10_isDigitNext 15 = .ok (.ldc2_w 317, 3) := by decide +kernel
theorem dX10_isDigitNext_18 : decode cX10_isDigitNext 18 = .ok (.invokestatic 93, 3) := by decide +kernel
theorem dX10_isDigitNext_21 : decode cX10_isDigitNext 21 = .ok (.ifCond .eq 18, 3) := by decide +kernel
theorem dX10_isDigitNext_24 : decode cX10_isDigitNext 24 = .ok (.aload_n 0, 1) := by decide +kernel
theorem dX10_isDigitNext_25 : decode cX10_isDigitNext 25 = .ok (.getfield 122, 3) := by decide +kernel
theorem dX10_isDigitNext_28 : decode cX10_isDigitNext 28 = .ok (.aload_n 0, 1) := by decide +kernel
theorem dX10_isDigitNext_29 : decode cX10_isDigitNext 29 = .ok (.getfield 112, 3) := by decide +kernel
theorem dX10_isDigitNext_32 : decode cX10_isDigitNext 32 = .ok (.if_icmp .ge 7, 3) := by decide +kernel
theorem dX10_isDigitNext_35 : decode cX10_isDigitNext 35 = .ok (.iconst 1, 1) := by decide +kernel
theorem dX10_isDigitNext_36 : decode cX10_isDigitNext 36 = .ok (.goto 4, 3) := by decide +kernel
theorem dX10_isDigitNext_39 : decode cX10_isDigitNext 39 = .ok (.iconst 0, 1) := by decide +kernel
theorem dX10_isDigitNext_40 : decode cX10_isDigitNext 40 = .ok (.ireturn, 1) := by decide +kernel
theorem dX10_addNumber_0 : decode cX10_addNumber 0 = .ok (.aload_n 0, 1) := by decide +kernel
theorem dX10_addNumber_1 : decode cX10_addNumber 1 = .ok (.invokevirtual 319, 3) := by decide +kernel
theorem dX10_addNumber_4 : decode cX10_addNumber 4 = .ok (.ifCond .ne 12, 3) := by decide +kernel
theorem dX10_addNumber_7 : decode cX10_addNumber 7 = .ok (.aload_n 0, 1) := by decide +kernel
theorem dX10_addNumber_8 : decode cX10_addNumber 8 = .ok (.aload_n 0, 1) := by decide +kernel
theorem dX10_addNumber_9 : decode cX10_addNumber 9 = .ok (.getfield 122, 3) := by decide +kernel
theorem dX10_addNumber_12 : decode cX10_addNumber 12 = .ok (.invokevirtual 135, 3) := by decide +kernel
theorem dX10_addNumber_15 : decode cX10_addNumber 15 = .ok (.return_, 1) := by decide +kernel
theorem dX10_addNumber_16 : decode cX10_addNumber 16 = .ok (.iconst 0, 1) := by decide +kernel
theorem dX10_addNumber_17 : decode cX10_addNumber 17 = .ok (.istore_n 1, 1) := by decide +kernel
theorem dX10_addNumber_18 : decode cX10_addNumber 18 = .ok (.iconst 0, 1) := by decide +kernel
theorem dX10_addNumber_19 : decode cX10_addNumber 19 = .ok (.istore_n 2, 1) := by decide +kernel
theorem dX10_addNumber_20 : decode cX10_addNumber 20 = .ok (.iload_n 2, 1) := by decide +kernel
theorem dX10_addNumber_21 : decode cX10_addNumber 21 = .ok (.iconst 3, 1) := by decide +kernel
theorem dX10_addNumber_22 : decode cX10_addNumber 22 = .ok (.if_icmp .ge 70, 3) := by decide +kernel
theorem dX10_addNumber_25 : decode cX10_addNumber 25 = .ok (.aload_n 0, 1) := by decide +kernel
theorem dX10_addNumber_26 : decode cX10_addNumber 26 = .ok (.getfield 122, 3) := by decide +kernel
theorem dX10_addNumber_29 : decode cX10_addNumber 29 = .ok (.aload_n 0, 1) := by decide +kernel
theorem dX10_addNumber_30 : decode cX10_addNumber 30 = .ok (.getfield 112, 3) := by decide +kernel
theorem dX10_addNumber_33 : decode cX10_addNumber 33 = .ok (.if_icmp .ge 59, 3) := by decide +kernel
theorem dX10_addNumber_36 : decode cX10_addNumber 36 = .ok (.aload_n 0, 1) := by decide +kernel
theorem dX10_addNumber_37 : decode cX10_addNumber 37 = .ok (.getfield 25, 3) := by decide +kernel
theorem dX10_addNumber_40 : decode cX10_addNumber 40 = .ok (.aload_n 0, 1) := by decide +kernel
theorem dX10_addNumber_41 : decode cX10_addNumber 41 = .ok (.getfield 122, 3) := by decide +kernel
theorem dX10_addNumber_44 : decode cX10_addNumber 44 = .ok (.baload, 1) := by decide +kernel
theorem dX10_addNumber_45 : decode cX10_addNumber 45 = .ok (.i2l, 1) := by decide +kernel
theorem dX10_addNumber_46 : decode cX10_addNumber 46 = .ok (.ldc2_w 315, 3) := by decide +kernel
theorem dX10_addNumber_49 : decode cX10_addNumber 49 = .ok (.ldc2_w 317, 3) := by decide +kernel
theorem dX10_addNumber_52 : decode cX10_addNumber 52 = .ok (.invokestatic 93, 3) := by decide +kernel
theorem dX10_addNumber_55 : decode cX10_addNumber 55 = .ok (.ifCond .eq 37, 3) := by decide +kernel
theorem dX10_addNumber_58 : decode cX10_addNumber 58 = .ok (.bipush 10, 2) := by decide +kernel
theorem dX10_addNumber_60 : decode cX10_addNumber 60 = .ok (.iload_n 1, 1) := by decide +kernel
theorem dX10_addNumber_61 : decode cX10_addNumber 61 = .ok (.imul, 1) := by decide +kernel
theorem dX10_addNumber_62 : decode cX10_addNumber 62 = .ok (.aload_n 0, 1) := by decide +kernel
theorem dX10_addNumber_63 : decode cX10_addNumber 63 = .ok (.getfield 25, 3) := by decide +kernel
theorem dX10_addNumber_66 : decode cX10_addNumber 66 = .ok (.aload_n 0, 1) := by decide +kernel
theorem dX10_addNumber_67 : decode cX10_addNumber 67 = .ok (.getfield 122, 3) := by decide +kernel
theorem dX10_addNumber_70 : decode cX10_addNumber 70 = .ok (.baload, 1) := by decide +kernel
theorem dX10_addNumber_71 : decode cX10_addNumber 71 = .ok (.iadd, 1) := by decide +kernel
theorem dX10_addNumber_72 : decode cX10_addNumber 72 = .ok (.bipush 48, 2) := by decide +kernel
theorem dX10_addNumber_74 : decode cX10_addNumber 74 = .ok (.isub, 1) := by decide +kernel
theorem dX10_addNumber_75 : decode cX10_addNumber 75 = .ok (.istore_n 1, 1) := by decide +kernel
theorem dX10_addNumber_76 : decode cX10_addNumber 76 = .ok (.aload_n 0, 1) := by decide +kernel
theorem dX10_addNumber_77 : decode cX10_addNumber 77 = .ok (.dup, 1) := by decide +kernel
theorem dX10_addNumber_78 : decode cX10_addNumber 78 = .ok (.getfield 122, 3) := by decide +kernel
theorem dX10_addNumber_81 : decode cX10_addNumber 81 = .ok (.iconst 1, 1) := by decide +kernel
theorem dX10_addNumber_82 : decode cX10_addNumber 82 = .ok (.iadd, 1) := by decide +kernel
theorem dX10_addNumber_83 : decode cX10_addNumber 83 = .ok (.putfield 122, 3) := by decide +kernel
theorem dX10_addNumber_86 : decode cX10_addNumber 86 = .ok (.iinc 2 1, 3) := by decide +kernel
theorem dX10_addNumber_89 : decode cX10_addNumber 89 = .ok (.goto (-69), 3) := by decide +kernel
theorem dX10_addNumber_92 : decode cX10_addNumber 92 = .ok (.aload_n 0, 1) := by decide +kernel
theorem dX10_addNumber_93 : decode cX10_addNumber 93 = .ok (.getfield 122, 3) := by decide +kernel
theorem dX10_addNumber_96 : decode cX10_addNumber 96 = .ok (.aload_n 0, 1) := by decide +kernel
theorem dX10_addNumber_97 : decode cX10_addNumber 97 = .ok (.getfield 112, 3) := by decide +kernel
theorem dX10_addNumber_100 : decode cX10_addNumber 100 = .ok (.if_icmp .ge 34, 3) := by decide +kernel
theorem dX10_addNumber_103 : decode cX10_addNumber 103 = .ok (.aload_n 0, 1) := by decide +kernel
theorem dX10_addNumber_104 : decode cX10_addNumber 104 = .ok (.getfield 25, 3) := by decide +kernel
theorem dX10_addNumber_107 : decode cX10_addNumber 107 = .ok (.aload_n 0, 1) := by decide +kernel
theorem dX10_addNumber_108 : decode cX10_addNumber 108 = .ok (.getfield 122, 3) := by decide +kernel
theorem dX10_addNumber_111 : decode cX10_addNumber 111 = .ok (.baload, 1) := by decide +kernel
theorem dX10_addNumber_112 : decode cX10_addNumber 112 = .ok (.i2l, 1) := by decide +kernel
theorem dX10_addNumber_113 : decode cX10_addNumber 113 = .ok (.ldc2_w 315, 3) := by decide +kernel
theorem dX10_addNumber_116 : decode cX10_addNumber 116 = .ok (.ldc2_w 317, 3) := by decide +kernel
theorem dX10_addNumber_119 : decode cX10_addNumber 119 = .ok (.invokestatic 93, 3) := by decide +kernel
theorem dX10_addNumber_122 : decode cX10_addNumber 122 = .ok (.ifCond .eq 12, 3) := by decide +kernel
theorem dX10_addNumber_125 : decode cX10_addNumber 125 = .ok (.aload_n 0, 1) := by decide +kernel
theorem dX10_addNumber_126 : decode cX10_addNumber 126 = .ok (.aload_n 0, 1) := by decide +kernel
theorem dX10_addNumber_127 : decode cX10_addNumber 127 = .ok (.getfield 122, 3) := by decide +kernel
theorem dX10_addNumber_130 : decode cX10_addNumber 130 = .ok (.invokevirtual 135, 3) := by decide +kernel
theorem dX10_addNumber_133 : decode cX10_addNumber 133 = .ok (.return_, 1) := by decide +kernel
theorem dX10_addNumber_134 : decode cX10_addNumber 134 = .ok (.aload_n 0, 1) := by decide +kernel
theorem dX10_addNumber_135 : decode cX10_addNumber 135 = .ok (.getfield 77, 3) := by decide +kernel
theorem dX10_addNumber_138 : decode cX10_addNumber 138 = .ok (.aload_n 0, 1) := by decide +kernel
theorem dX10_addNumber_139 : decode cX10_addNumber 139 = .ok (.getfield 312, 3) := by decide +kernel
theorem dX10_addNumber_142 : decode cX10_addNumber 142 = .ok (.bipush 100, 2) := by decide +kernel
theorem dX10_addNumber_144 : decode cX10_addNumber 144 = .ok (.iload_n 1, 1) := by decide +kernel
theorem dX10_addNumber_145 : decode cX10_addNumber 145 = .ok (.iadd, 1) := by decide +kernel
theorem dX10_addNumber_146 : decode cX10_addNumber 146 = .ok (.iastore, 1) := by decide +kernel
theorem dX10_addNumber_147 : decode cX10_addNumber 147 = .ok (.aload_n 0, 1) := by decide +kernel
theorem dX10_addNumber_148 : decode cX10_addNumber 148 = .ok (.dup, 1) := by decide +kernel
theorem dX10_addNumber_149 : decode cX10_addNumber 149 = .ok (.getfield 312, 3) := by decide +kernel
theorem dX10_addNumber_152 : decode cX10_addNumber 152 = .ok (.iconst 1, 1) := by decide +kernel
theorem dX10_addNumber_153 : decode cX10_addNumber 153 = .ok (.iadd, 1) := by decide +kernel
theorem dX10_addNumber_154 : decode cX10_addNumber 154 = .ok (.putfield 312, 3) := by decide +kernel
theorem dX10_addNumber_157 : decode cX10_addNumber 157 = .ok (.return_, 1) := by decide +kernel
theorem dX10_readLine_0 : decode cX10_readLine 0 = .ok (.aload_n 0, 1) := by decide +kernel
theorem dX10_readLine_1 : decode cX10_readLine 1 = .ok (.invokevirtual 125, 3) := by decide +kernel
theorem dX10_readLine_4 : decode cX10_readLine 4 = .ok (.istore_n 1, 1) := by decide +kernel
theorem dX10_readLine_5 : decode cX10_readLine 5 = .ok (.aload_n 0, 1) := by decide +kernel
theorem dX10_readLine_6 : decode cX10_readLine 6 = .ok (.getfield 115, 3) := by decide +kernel
theorem dX10_readLine_9 : decode cX10_readLine 9 = .ok (.ifCond .eq 64, 3) := by decide +kernel
theorem dX10_readLine_12 : decode cX10_readLine 12 = .ok (.aload_n 0, 1) := by decide +kernel
theorem dX10_readLine_13 : decode cX10_readLine 13 = .ok (.getfield 122, 3) := by decide +kernel
theorem dX10_readLine_16 : decode cX10_readLine 16 = .ok (.aload_n 0, 1) := by decide +kernel
theorem dX10_readLine_17 : decode cX10_readLine 17 = .ok (.getfield 112, 3) := by decide +kernel
theorem dX10_readLine_20 : decode cX10_readLine 20 = .ok (.if_icmp .ge 53, 3) := by decide +kernel
theorem dX10_readLine_23 : decode cX10_readLine 23 = .ok (.iload_n 1, 1) := by decide +kernel
theorem dX10_readLine_24 : decode cX10_readLine 24 = .ok (.i2l, 1) := by decide +kernel
theorem dX10_readLine_25 : decode cX10_readLine 25 = .ok (.ldc2_w 322, 3) := by decide +kernel
theorem dX10_readLine_28 : decode cX10_readLine 28 = .ok (.ldc2_w 324, 3) := by decide +kernel
theorem dX10_readLine_31 : decode cX10_readLine 31 = .ok (.invokestatic 93, 3) := by decide +kernel
theorem dX10_readLine_34 : decode cX10_readLine 34 = .ok (.ifCond .eq 39, 3) := by decide +kernel
theorem dX10_readLine_37 : decode cX10_readLine 37 = .ok (.iload_n 1, 1) := by decide +kernel
theorem dX10_readLine_38 : decode cX10_readLine 38 = .ok (.bipush 117, 2) := by decide +kernel
theorem dX10_readLine_40 : decode cX10_readLine 40 = .ok (.if_icmp .eq 42, 3) := by decide +kernel
theorem dX10_readLine_43 : decode cX10_readLine 43 = .ok (.iload_n 1, 1) := by decide +kernel
theorem dX10_readLine_44 : decode cX10_readLine 44 = .ok (.bipush 107, 2) := by decide +kernel
theorem dX10_readLine_46 : decode cX10_readLine 46 = .ok (.if_icmp .eq 36, 3) := by decide +kernel
theorem dX10_readLine_49 : decode cX10_readLine 49 = .ok (.iload_n 1, 1) := by decide +kernel
theorem dX10_readLine_50 : decode cX10_readLine 50 = .ok (.bipush 115, 2) := by decide +kernel
theorem dX10_readLine_52 : decode cX10_readLine 52 = .ok (.if_icmp .eq 30, 3) := by decide +kernel
theorem dX10_readLine_55 : decode cX10_readLine 55 = .ok (.iload_n 1, 1) := by decide +kernel
theorem dX10_readLine_56 : decode cX10_readLine 56 = .ok (.bipush 119, 2) := by decide +kernel
theorem dX10_readLine_58 : decode cX10_readLine 58 = .ok (.if_icmp .eq 24, 3) := by decide +kernel
theorem dX10_readLine_61 : decode cX10_readLine 61 = .ok (.iload_n 1, 1) := by decide +kernel
theorem dX10_readLine_62 : decode cX10_readLine 62 = .ok (.bipush 99, 2) := by decide +kernel
theorem dX10_readLine_64 : decode cX10_readLine 64 = .ok (.if_icmp .eq 18, 3) := by decide +kernel
theorem dX10_readLine_67 : decode cX10_readLine 67 = .ok (.iload_n 1, 1) := by decide +kernel
theorem dX10_readLine_68 : decode cX10_readLine 68 = .ok (.bipush 114, 2) := by decide +kernel
theorem dX10_readLine_70 : decode cX10_readLine 70 = .ok (.if_icmp .eq 12, 3) := by decide +kernel
theorem dX10_readLine_73 : decode cX10_readLine 73 = .ok (.aload_n 0, 1) := by decide +kernel
theorem dX10_readLine_74 : decode cX10_readLine 74 = .ok (.aload_n 0, 1) := by decide +kernel
theorem dX10_readLine_75 : decode cX10_readLine 75 = .ok (.getfield 122, 3) := by decide +kernel
theorem dX10_readLine_78 : decode cX10_readLine 78 = .ok (.invokevirtual 135, 3) := by decide +kernel
theorem dX10_readLine_81 : decode cX10_readLine 81 = .ok (.return_, 1) := by decide +kernel
theorem dX10_readLine_82 : decode cX10_readLine 82 = .ok (.aload_n 0, 1) := by decide +kernel
theorem dX10_readLine_83 : decode cX10_readLine 83 = .ok (.dup, 1) := by decide +kernel
theorem dX10_readLine_84 : decode cX10_readLine 84 = .ok (.getfield 122, 3) := by decide +kernel
theorem dX10_readLine_87 : decode cX10_readLine 87 = .ok (.iconst 1, 1) := by decide +kernel
theorem dX10_readLine_88 : decode cX10_readLine 88 = .ok (.iadd, 1) := by decide +kernel
theorem dX10_readLine_89 : decode cX10_readLine 89 = .ok (.putfield 122, 3) := by decide +kernel
theorem dX10_readLine_92 : decode cX10_readLine 92 = .ok (.aload_n 0, 1) := by decide +kernel
theorem dX10_readLine_93 : decode cX10_readLine 93 = .ok (.getfield 80, 3) := by decide +kernel
theorem dX10_readLine_96 : decode cX10_readLine 96 = .ok (.aload_n 0, 1) := by decide +kernel
theorem dX10_readLine_97 : decode cX10_readLine 97 = .ok (.getfield 326, 3) := by decide +kernel
theorem dX10_readLine_100 : decode cX10_readLine 100 = .ok (.aload_n 0, 1) := by decide +kernel
theorem dX10_readLine_101 : decode cX10_readLine 101 = .ok (.getfield 312, 3) := by decide +kernel
theorem dX10_readLine_104 : decode cX10_readLine 104 = .ok (.iastore, 1) := by decide +kernel
theorem dX10_readLine_105 : decode cX10_readLine 105 = .ok (.aload_n 0, 1) := by decide +kernel
theorem dX10_readLine_106 : decode cX10_readLine 106 = .ok (.getfield 83, 3) := by decide +kernel
theorem dX10_readLine_109 : decode cX10_readLine 109 = .ok (.aload_n 0, 1) := by decide +kernel
theorem dX10_readLine_110 : decode cX10_readLine 110 = .ok (.getfield 326, 3) := by decide +kernel
theorem dX10_readLine_113 : decode cX10_readLine 113 = .ok (.iload_n 1, 1) := by decide +kernel
theorem dX10_readLine_114 : decode cX10_readLine 114 = .ok (.iastore, 1) := by decide +kernel
theorem dX10_readLine_115 : decode cX10_readLine 115 = .ok (.aload_n 0, 1) := by decide +kernel
theorem dX10_readLine_116 : decode cX10_readLine 116 = .ok (.dup, 1) := by decide +kernel
theorem dX10_readLine_117 : decode cX10_readLine 117 = .ok (.getfield 326, 3) := by decide +kernel
theorem dX10_readLine_120 : decode cX10_readLine 120 = .ok (.iconst 1, 1) := by decide +kernel
theorem dX10_readLine_121 : decode cX10_readLine 121 = .ok (.iadd, 1) := by decide +kernel
theorem dX10_readLine_122 : decode cX10_readLine 122 = .ok (.putfield 326, 3) := by decide +kernel
theorem dX10_readLine_125 : decode cX10_readLine 125 = .ok (.iload_n 1, 1) := by decide +kernel
theorem dX10_readLine_126 : decode cX10_readLine 126 = .ok (.bipush 115, 2) := by decide +kernel
theorem dX10_readLine_128 : decode cX10_readLine 128 = .ok (.if_icmp .ne 7, 3) := by decide +kernel
theorem dX10_readLine_131 : decode cX10_readLine 131 = .ok (.aload_n 0, 1) := by decide +kernel
theorem dX10_readLine_132 : decode cX10_readLine 132 = .ok (.invokevirtual 329, 3) := by decide +kernel
theorem dX10_readLine_135 : decode cX10_readLine 135 = .ok (.aload_n 0, 1) := by decide +kernel
theorem dX10_readLine_136 : decode cX10_readLine 136 = .ok (.invokevirtual 332, 3) := by decide +kernel
theorem dX10_readLine_139 : decode cX10_readLine 139 = .ok (.iload_n 1, 1) := by decide +kernel
theorem dX10_readLine_140 : decode cX10_readLine 140 = .ok (.bipush 117, 2) := by decide +kernel
theorem dX10_readLine_142 : decode cX10_readLine 142 = .ok (.if_icmp .ne 7, 3) := by decide +kernel
theorem dX10_readLine_145 : decode cX10_readLine 145 = .ok (.aload_n 0, 1) := by decide +kernel
theorem dX10_readLine_146 : decode cX10_readLine 146 = .ok (.invokevirtual 332, 3) := by decide +kernel
theorem dX10_readLine_149 : decode cX10_readLine 149 = .ok (.iload_n 1, 1) := by decide +kernel
theorem dX10_readLine_150 : decode cX10_readLine 150 = .ok (.bipush 119, 2) := by decide +kernel
theorem dX10_readLine_152 : decode cX10_readLine 152 = .ok (.if_icmp .ne 7, 3) := by decide +kernel
theorem dX10_readLine_155 : decode cX10_readLine 155 = .ok (.aload_n 0, 1) := by decide +kernel
theorem dX10_readLine_156 : decode cX10_readLine 156 = .ok (.invokevirtual 329, 3) := by decide +kernel
theorem dX10_readLine_159 : decode cX10_readLine 159 = .ok (.aload_n 0, 1) := by decide +kernel
theorem dX10_readLine_160 : decode cX10_readLine 160 = .ok (.invokevirtual 132, 3) := by decide +kernel
theorem dX10_readLine_163 : decode cX10_readLine 163 = .ok (.istore_n 2, 1) := by decide +kernel
theorem dX10_readLine_164 : decode cX10_readLine 164 = .ok (.iload_n 2, 1) := by decide +kernel
theorem dX10_readLine_165 : decode cX10_readLine 165 = .ok (.ifCond .eq 39, 3) := by decide +kernel
theorem dX10_readLine_168 : decode cX10_readLine 168 = .ok (.aload_n 0, 1) := by decide +kernel
theorem dX10_readLine_169 : decode cX10_readLine 169 = .ok (.invokevirtual 332, 3) := by decide +kernel
theorem dX10_readLine_172 : decode cX10_readLine 172 = .ok (.iload_n 1, 1) := by decide +kernel
theorem dX10_readLine_173 : decode cX10_readLine 173 = .ok (.bipush 119, 2) := by decide +kernel
theorem dX10_readLine_175 : decode cX10_readLine 175 = .ok (.if_icmp .ne 7, 3) := by decide +kernel
theorem dX10_readLine_178 : decode cX10_readLine 178 = .ok (.aload_n 0, 1) := by decide +kernel
theorem dX10_readLine_179 : decode cX10_readLine 179 = .ok (.invokevirtual 329, 3) := by decide +kernel
theorem dX10_readLine_182 : decode cX10_readLine 182 = .ok (.iload_n 1, 1) := by decide +kernel
theorem dX10_readLine_183 : decode cX10_readLine 183 = .ok (.bipush 117, 2) := by decide +kernel
theorem dX10_readLine_185 : decode cX10_readLine 185 = .ok (.if_icmp .eq 14, 3) := by decide +kernel
theorem dX10_readLine_188 : decode cX10_readLine 188 = .ok (.aload_n 0, 1) := by decide +kernel
theorem dX10_readLine_189 : decode cX10_readLine 189 = .ok (.invokevirtual 132, 3) := by decide +kernel
theorem dX10_readLine_192 : decode cX10_readLine 192 = .ok (.ifCond .eq 7, 3) := by decide +kernel
theorem dX10_readLine_195 : decode cX10_readLine 195 = .ok (.iconst 1, 1) := by decide +kernel
theorem dX10_readLine_196 : decode cX10_readLine 196 = .ok (.goto 4, 3) := by decide +kernel
theorem dX10_readLine_199 : decode cX10_readLine 199 = .ok (.iconst 0, 1) := by decide +kernel
theorem dX10_readLine_200 : decode cX10_readLine 200 = .ok (.istore_n 2, 1) := by decide +kernel
theorem dX10_readLine_201 : decode cX10_readLine 201 = .ok (.goto (-37), 3) := by decide +kernel
theorem dX10_readLine_204 : decode cX10_readLine 204 = .ok (.return_, 1) := by decide +kernel
theorem dX10_lineEnd_0 : decode cX10_lineEnd 0 = .ok (.iload_n 1, 1) := by decide +kernel
theorem dX10_lineEnd_1 : decode cX10_lineEnd 1 = .ok (.iconst 1, 1) := by decide +kernel
theorem dX10_lineEnd_2 : decode cX10_lineEnd 2 = .ok (.iadd, 1) := by decide +kernel
theorem dX10_lineEnd_3 : decode cX10_lineEnd 3 = .ok (.aload_n 0, 1) := by decide +kernel
theorem dX10_lineEnd_4 : decode cX10_lineEnd 4 = .ok (.getfield 326, 3) := by decide +kernel
theorem dX10_lineEnd_7 : decode cX10_lineEnd 7 = .ok (.if_icmp .ge 14, 3) := by decide +kernel
theorem dX10_lineEnd_10 : decode cX10_lineEnd 10 = .ok (.aload_n 0, 1) := by decide +kernel
theorem dX10_lineEnd_11 : decode cX10_lineEnd 11 = .ok (.getfield 80, 3) := by decide +kernel
theorem dX10_lineEnd_14 : decode cX10_lineEnd 14 = .ok (.iload_n 1, 1) := by decide +kernel
theorem dX10_lineEnd_15 : decode cX10_lineEnd 15 = .ok (.iconst 1, 1) := by decide +kernel
theorem dX10_lineEnd_16 : decode cX10_lineEnd 16 = .ok (.iadd, 1) := by decide +kernel
theorem dX10_lineEnd_17 : decode cX10_lineEnd 17 = .ok (.iaload, 1) := by decide +kernel
theorem dX10_lineEnd_18 : decode cX10_lineEnd 18 = .ok (.goto 7, 3) := by decide +kernel
theorem dX10_lineEnd_21 : decode cX10_lineEnd 21 = .ok (.aload_n 0, 1) := by decide +kernel
theorem dX10_lineEnd_22 : decode cX10_lineEnd 22 = .ok (.getfield 312, 3) := by decide +kernel
theorem dX10_lineEnd_25 : decode cX10_lineEnd 25 = .ok (.ireturn, 1) := by decide +kernel
theorem dX10_lettersOf_0 : decode cX10_lettersOf 0 = .ok (.iconst 0, 1) := by decide +kernel
theorem dX10_lettersOf_1 : decode cX10_lettersOf 1 = .ok (.istore_n 2, 1) := by decide +kernel
theorem dX10_lettersOf_2 : decode cX10_lettersOf 2 = .ok (.aload_n 0, 1) := by decide +kernel
theorem dX10_lettersOf_3 : decode cX10_lettersOf 3 = .ok (.getfield 80, 3) := by decide +kernel
theorem dX10_lettersOf_6 : decode cX10_lettersOf 6 = .ok (.iload_n 1, 1) := by decide +kernel
theorem dX10_lettersOf_7 : decode cX10_lettersOf 7 = .ok (.iaload, 1) := by decide +kernel
theorem dX10_lettersOf_8 : decode cX10_lettersOf 8 = .ok (.istore_n 3, 1) := by decide +kernel
theorem dX10_lettersOf_9 : decode cX10_lettersOf 9 = .ok (.iload_n 3, 1) := by decide +kernel
theorem dX10_lettersOf_10 : decode cX10_lettersOf 10 = .ok (.aload_n 0, 1) := by decide +kernel
theorem dX10_lettersOf_11 : decode cX10_lettersOf 11 = .ok (.iload_n 1, 1) := by decide +kernel
theorem dX10_lettersOf_12 : decode cX10_lettersOf 12 = .ok (.invokevirtual 335, 3) := by decide +kernel
theorem dX10_lettersOf_15 : decode cX10_lettersOf 15 = .ok (.if_icmp .ge 35, 3) := by decide +kernel
theorem dX10_lettersOf_18 : decode cX10_lettersOf 18 = .ok (.iload_n 2, 1) := by decide +kernel
theorem dX10_lettersOf_19 : decode cX10_lettersOf 19 = .ok (.aload_n 0, 1) := by decide +kernel
theorem dX10_lettersOf_20 : decode cX10_lettersOf 20 = .ok (.getfield 77, 3) := by decide +kernel
theorem dX10_lettersOf_23 : decode cX10_lettersOf 23 = .ok (.iload_n 3, 1) := by decide +kernel
theorem dX10_lettersOf_24 : decode cX10_lettersOf 24 = .ok (.iaload, 1) := by decide +kernel
theorem dX10_lettersOf_25 : decode cX10_lettersOf 25 = .ok (.bipush 100, 2) := by decide +kernel
theorem dX10_lettersOf_27 : decode cX10_lettersOf 27 = .ok (.if_icmp .ge 14, 3) := by decide +kernel
theorem dX10_lettersOf_30 : decode cX10_lettersOf 30 = .ok (.iconst 1, 1) := by decide +kernel
theorem dX10_lettersOf_31 : decode cX10_lettersOf 31 = .ok (.aload_n 0, 1) := by decide +kernel
theorem dX10_lettersOf_32 : decode cX10_lettersOf 32 = .ok (.getfield 77, 3) := by decide +kernel
theorem dX10_lettersOf_35 : decode cX10_lettersOf 35 = .ok (.iload_n 3, 1) := by decide +kernel
theorem dX10_lettersOf_36 : decode cX10_lettersOf 36 = .ok (.iaload, 1) := by decide +kernel
theorem dX10_lettersOf_37 : decode cX10_lettersOf 37 = .ok (.ishl, 1) := by decide +kernel
theorem dX10_lettersOf_38 : decode cX10_lettersOf 38 = .ok (.goto 4, 3) := by decide +kernel
theorem dX10_lettersOf_41 : decode cX10_lettersOf 41 = .ok (.iconst 0, 1) := by decide +kernel
theorem dX10_lettersOf_42 : decode cX10_lettersOf 42 = .ok (.ior, 1) := by decide +kernel
theorem dX10_lettersOf_43 : decode cX10_lettersOf 43 = .ok (.istore_n 2, 1) := by decide +kernel
theorem dX10_lettersOf_44 : decode cX10_lettersOf 44 = .ok (.iinc 3 1, 3) := by decide +kernel
theorem dX10_lettersOf_47 : decode cX10_lettersOf 47 = .ok (.goto (-38), 3) := by decide +kernel
theorem dX10_lettersOf_50 : decode cX10_lettersOf 50 = .ok (.iload_n 2, 1) := by decide +kernel
theorem dX10_lettersOf_51 : decode cX10_lettersOf 51 = .ok (.ireturn, 1) := by decide +kernel
theorem dX10_hasTwice_0 : decode cX10_hasTwice 0 = .ok (.iconst 0, 1) := by decide +kernel
theorem dX10_hasTwice_1 : decode cX10_hasTwice 1 = .ok (.istore_n 2, 1) := by decide +kernel
theorem dX10_hasTwice_2 : decode cX10_hasTwice 2 = .ok (.aload_n 0, 1) := by decide +kernel
theorem dX10_hasTwice_3 : decode cX10_hasTwice 3 = .ok (.getfield 80, 3) := by decide +kernel
theorem dX10_hasTwice_6 : decode cX10_hasTwice 6 = .ok (.iload_n 1, 1) := by decide +kernel
theorem dX10_hasTwice_7 : decode cX10_hasTwice 7 = .ok (.iaload, 1) := by decide +kernel
theorem dX10_hasTwice_8 : decode cX10_hasTwice 8 = .ok (.istore_n 3, 1) := by decide +kernel
theorem dX10_hasTwice_9 : decode cX10_hasTwice 9 = .ok (.iload_n 3, 1) := by decide +kernel
theorem dX10_hasTwice_10 : decode cX10_hasTwice 10 = .ok (.aload_n 0, 1) := by decide +kernel
theorem dX10_hasTwice_11 : decode cX10_hasTwice 11 = .ok (.iload_n 1, 1) := by decide +kernel
theorem dX10_hasTwice_12 : decode cX10_hasTwice 12 = .ok (.invokevirtual 335, 3) := by decide +kernel
theorem dX10_hasTwice_15 : decode cX10_hasTwice 15 = .ok (.if_icmp .ge 28, 3) := by decide +kernel
theorem dX10_hasTwice_18 : decode cX10_hasTwice 18 = .ok (.iload_n 2, 1) := by decide +kernel
theorem dX10_hasTwice_19 : decode cX10_hasTwice 19 = .ok (.aload_n 0, 1) := by decide +kernel
theorem dX10_hasTwice_20 : decode cX10_hasTwice 20 = .ok (.getfield 77, 3) := by decide +kernel
theorem dX10_hasTwice_23 : decode cX10_hasTwice 23 = .ok (.iload_n 3, 1) := by decide +kernel
theorem dX10_hasTwice_24 : decode cX10_hasTwice 24 = .ok (.iaload, 1) := by decide +kernel
theorem dX10_hasTwice_25 : decode cX10_hasTwice 25 = .ok (.bipush 100, 2) := by decide +kernel
theorem dX10_hasTwice_27 : decode cX10_hasTwice 27 = .ok (.if_icmp .ge 7, 3) := by decide +kernel
theorem dX10_hasTwice_30 : decode cX10_hasTwice 30 = .ok (.iconst 1, 1) := by decide +kernel
theorem dX10_hasTwice_31 : decode cX10_hasTwice 31 = .ok (.goto 4, 3) := by decide +kernel
theorem dX10_hasTwice_34 : decode cX10_hasTwice 34 = .ok (.iconst 0, 1) := by decide +kernel
theorem dX10_hasTwice_35 : decode cX10_hasTwice 35 = .ok (.iadd, 1) := by decide +kernel
theorem dX10_hasTwice_36 : decode cX10_hasTwice 36 = .ok (.istore_n 2, 1) := by decide +kernel
theorem dX10_hasTwice_37 : decode cX10_hasTwice 37 = .ok (.iinc 3 1, 3) := by decide +kernel
theorem dX10_hasTwice_40 : decode cX10_hasTwice 40 = .ok (.goto (-31), 3) := by decide +kernel
theorem dX10_hasTwice_43 : decode cX10_hasTwice 43 = .ok (.iload_n 2, 1) := by decide +kernel
theorem dX10_hasTwice_44 : decode cX10_hasTwice 44 = .ok (.aload_n 0, 1) := by decide +kernel
theorem dX10_hasTwice_45 : decode cX10_hasTwice 45 = .ok (.iload_n 1, 1) := by decide +kernel
theorem dX10_hasTwice_46 : decode cX10_hasTwice 46 = .ok (.invokevirtual 338, 3) := by decide +kernel
theorem dX10_hasTwice_49 : decode cX10_hasTwice 49 = .ok (.invokestatic 200, 3) := by decide +kernel
theorem dX10_hasTwice_52 : decode cX10_hasTwice 52 = .ok (.if_icmp .le 7, 3) := by decide +kernel
theorem dX10_hasTwice_55 : decode cX10_hasTwice 55 = .ok (.iconst 1, 1) := by decide +kernel
theorem dX10_hasTwice_56 : decode cX10_hasTwice 56 = .ok (.goto 4, 3) := by decide +kernel
theorem dX10_hasTwice_59 : decode cX10_hasTwice 59 = .ok (.iconst 0, 1) := by decide +kernel
theorem dX10_hasTwice_60 : decode cX10_hasTwice 60 = .ok (.ireturn, 1) := by decide +kernel
theorem dX10_isOtherWay_0 : decode cX10_isOtherWay 0 = .ok (.aload_n 0, 1) := by decide +kernel
theorem dX10_isOtherWay_1 : decode cX10_isOtherWay 1 = .ok (.getfield 80, 3) := by decide +kernel
theorem dX10_isOtherWay_4 : decode cX10_isOtherWay 4 = .ok (.iload_n 1, 1) := by decide +kernel
theorem dX10_isOtherWay_5 : decode cX10_isOtherWay 5 = .ok (.iaload, 1) := by decide +kernel
theorem dX10_isOtherWay_6 : decode cX10_isOtherWay 6 = .ok (.istore_n 2, 1) := by decide +kernel
theorem dX10_isOtherWay_7 : decode cX10_isOtherWay 7 = .ok (.aload_n 0, 1) := by decide +kernel
theorem dX10_isOtherWay_8 : decode cX10_isOtherWay 8 = .ok (.iload_n 1, 1) := by decide +kernel
theorem dX10_isOtherWay_9 : decode cX10_isOtherWay 9 = .ok (.invokevirtual 335, 3) := by decide +kernel
theorem dX10_isOtherWay_12 : decode cX10_isOtherWay 12 = .ok (.istore_n 3, 1) := by decide +kernel
theorem dX10_isOtherWay_13 : decode cX10_isOtherWay 13 = .ok (.iconst 0, 1) := by decide +kernel
theorem dX10_isOtherWay_14 : decode cX10_isOtherWay 14 = .ok (.istore 4, 2) := by decide +kernel
theorem dX10_isOtherWay_16 : decode cX10_isOtherWay 16 = .ok (.aload_n 0, 1) := by decide +kernel
theorem dX10_isOtherWay_17 : decode cX10_isOtherWay 17 = .ok (.getfield 83, 3) := by decide +kernel
theorem dX10_isOtherWay_20 : decode cX10_isOtherWay 20 = .ok (.iload_n 1, 1) := by decide +kernel
theorem dX10_isOtherWay_21 : decode cX10_isOtherWay 21 = .ok (.iaload, 1) := by decide +kernel
theorem dX10_isOtherWay_22 : decode cX10_isOtherWay 22 = .ok (.bipush 117, 2) := by decide +kernel
theorem dX10_isOtherWay_24 : decode cX10_isOtherWay 24 = .ok (.if_icmp .ne 96, 3) := by decide +kernel
theorem dX10_isOtherWay_27 : decode cX10_isOtherWay 27 = .ok (.iload_n 3, 1) := by decide +kernel
theorem dX10_isOtherWay_28 : decode cX10_isOtherWay 28 = .ok (.iload_n 2, 1) := by decide +kernel
theorem dX10_isOtherWay_29 : decode cX10_isOtherWay 29 = .ok (.isub, 1) := by decide +kernel
theorem dX10_isOtherWay_30 : decode cX10_isOtherWay 30 = .ok (.iconst 2, 1) := by decide +kernel
theorem dX10_isOtherWay_31 : decode cX10_isOtherWay 31 = .ok (.if_icmp .ne 33, 3) := by decide +kernel
theorem dX10_isOtherWay_34 : decode cX10_isOtherWay 34 = .ok (.aload_n 0, 1) := by decide +kernel
theorem dX10_isOtherWay_35 : decode cX10_isOtherWay 35 = .ok (.aload_n 0, 1) := by decide +kernel
theorem dX10_isOtherWay_36 : decode cX10_isOtherWay 36 = .ok (.getfield 77, 3) := by decide +kernel
theorem dX10_isOtherWay_39 : decode cX10_isOtherWay 39 = .ok (.iload_n 2, 1) := by decide +kernel
theorem dX10_isOtherWay_40 : decode cX10_isOtherWay 40 = .ok (.iaload, 1) := by decide +kernel
theorem dX10_isOtherWay_41 : decode cX10_isOtherWay 41 = .ok (.invokevirtual 166, 3) := by decide +kernel
theorem dX10_isOtherWay_44 : decode cX10_isOtherWay 44 = .ok (.aload_n 0, 1) := by decide +kernel
theorem dX10_isOtherWay_45 : decode cX10_isOtherWay 45 = .ok (.getfield 77, 3) := by decide +kernel
theorem dX10_isOtherWay_48 : decode cX10_isOtherWay 48 = .ok (.iload_n 2, 1) := by decide +kernel
theorem dX10_isOtherWay_49 : decode cX10_isOtherWay 49 = .ok (.iconst 1, 1) := by decide +kernel
theorem dX10_isOtherWay_50 : decode cX10_isOtherWay 50 = .ok (.iadd, 1) := by decide +kernel
theorem dX10_isOtherWay_51 : decode cX10_isOtherWay 51 = .ok (.iaload, 1) := by decide +kernel
theorem dX10_isOtherWay_52 : decode cX10_isOtherWay 52 = .ok (.invokestatic 146, 3) := by decide +kernel
theorem dX10_isOtherWay_55 : decode cX10_isOtherWay 55 = .ok (.ifCond .ne 7, 3) := by decide +kernel
theorem dX10_isOtherWay_58 : decode cX10_isOtherWay 58 = .ok (.iconst 1, 1) := by decide +kernel
theorem dX10_isOtherWay_59 : decode cX10_isOtherWay 59 = .ok (.goto 4, 3) := by decide +kernel
theorem dX10_isOtherWay_62 : decode cX10_isOtherWay 62 = .ok (.iconst 0, 1) := by decide +kernel
theorem dX10_isOtherWay_63 : decode cX10_isOtherWay 63 = .ok (.ireturn, 1) := by decide +kernel
theorem dX10_isOtherWay_64 : decode cX10_isOtherWay 64 = .ok (.aload_n 0, 1) := by decide +kernel
theorem dX10_isOtherWay_65 : decode cX10_isOtherWay 65 = .ok (.aload_n 0, 1) := by decide +kernel
theorem dX10_isOtherWay_66 : decode cX10_isOtherWay 66 = .ok (.getfield 77, 3) := by decide +kernel
theorem dX10_isOtherWay_69 : decode cX10_isOtherWay 69 = .ok (.iload_n 2, 1) := by decide +kernel
theorem dX10_isOtherWay_70 : decode cX10_isOtherWay 70 = .ok (.iaload, 1) := by decide +kernel
theorem dX10_isOtherWay_71 : decode cX10_isOtherWay 71 = .ok (.invokevirtual 166, 3) := by decide +kernel
theorem dX10_isOtherWay_74 : decode cX10_isOtherWay 74 = .ok (.aload_n 0, 1) := by decide +kernel
theorem dX10_isOtherWay_75 : decode cX10_isOtherWay 75 = .ok (.getfield 77, 3) := by decide +kernel
theorem dX10_isOtherWay_78 : decode cX10_isOtherWay 78 = .ok (.iload_n 2, 1) := by decide +kernel
theorem dX10_isOtherWay_79 : decode cX10_isOtherWay 79 = .ok (.iconst 2, 1) := by decide +kernel
theorem dX10_isOtherWay_80 : decode cX10_isOtherWay 80 = .ok (.iadd, 1) := by decide +kernel
theorem dX10_isOtherWay_81 : decode cX10_isOtherWay 81 = .ok (.iaload, 1) := by decide +kernel
theorem dX10_isOtherWay_82 : decode cX10_isOtherWay 82 = .ok (.invokestatic 146, 3) := by decide +kernel
theorem dX10_isOtherWay_85 : decode cX10_isOtherWay 85 = .ok (.ifCond .eq 29, 3) := by decide +kernel
theorem dX10_isOtherWay_88 : decode cX10_isOtherWay 88 = .ok (.aload_n 0, 1) := by decide +kernel
theorem dX10_isOtherWay_89 : decode cX10_isOtherWay 89 = .ok (.aload_n 0, 1) := by decide +kernel
theorem dX10_isOtherWay_90 : decode cX10_isOtherWay 90 = .ok (.getfield 77, 3) := by decide +kernel
theorem dX10_isOtherWay_93 : decode cX10_isOtherWay 93 = .ok (.iload_n 2, 1) := by decide +kernel
theorem dX10_isOtherWay_94 : decode cX10_isOtherWay 94 = .ok (.iconst 2, 1) := by decide +kernel
theorem dX10_isOtherWay_95 : decode cX10_isOtherWay 95 = .ok (.iadd, 1) := by decide +kernel
theorem dX10_isOtherWay_96 : decode cX10_isOtherWay 96 = .ok (.iaload, 1) := by decide +kernel
theorem dX10_isOtherWay_97 : decode cX10_isOtherWay 97 = .ok (.invokevirtual 166, 3) := by decide +kernel
theorem dX10_isOtherWay_100 : decode cX10_isOtherWay 100 = .ok (.aload_n 0, 1) := by decide +kernel
theorem dX10_isOtherWay_101 : decode cX10_isOtherWay 101 = .ok (.getfield 77, 3) := by decide +kernel
theorem dX10_isOtherWay_104 : decode cX10_isOtherWay 104 = .ok (.iload_n 2, 1) := by decide +kernel
theorem dX10_isOtherWay_105 : decode cX10_isOtherWay 105 = .ok (.iconst 1, 1) := by decide +kernel
theorem dX10_isOtherWay_106 : decode cX10_isOtherWay 106 = .ok (.iadd, 1) := by decide +kernel
theorem dX10_isOtherWay_107 : decode cX10_isOtherWay 107 = .ok (.iaload, 1) := by decide +kernel
theorem dX10_isOtherWay_108 : decode cX10_isOtherWay 108 = .ok (.invokestatic 146, 3) := by decide +kernel
theorem dX10_isOtherWay_111 : decode cX10_isOtherWay 111 = .ok (.ifCond .ne 7, 3) := by decide +kernel
theorem dX10_isOtherWay_114 : decode cX10_isOtherWay 114 = .ok (.iconst 1, 1) := by decide +kernel
theorem dX10_isOtherWay_115 : decode cX10_isOtherWay 115 = .ok (.goto 4, 3) := by decide +kernel
theorem dX10_isOtherWay_118 : decode cX10_isOtherWay 118 = .ok (.iconst 0, 1) := by decide +kernel
theorem dX10_isOtherWay_119 : decode cX10_isOtherWay 119 = .ok (.ireturn, 1) := by decide +kernel
theorem dX10_isOtherWay_120 : decode cX10_isOtherWay 120 = .ok (.iload_n 2, 1) := by decide +kernel
theorem dX10_isOtherWay_121 : decode cX10_isOtherWay 121 = .ok (.istore 5, 2) := by decide +kernel
theorem dX10_isOtherWay_123 : decode cX10_isOtherWay 123 = .ok (.iload 5, 2) := by decide +kernel
theorem dX10_isOtherWay_125 : decode cX10_isOtherWay 125 = .ok (.iload_n 3, 1) := by decide +kernel
theorem dX10_isOtherWay_126 : decode cX10_isOtherWay 126 = .ok (.if_icmp .ge 74, 3) := by decide +kernel
theorem dX10_isOtherWay_129 : decode cX10_isOtherWay 129 = .ok (.aload_n 0, 1) := by decide +kernel
theorem dX10_isOtherWay_130 : decode cX10_isOtherWay 130 = .ok (.getfield 83, 3) := by decide +kernel
theorem dX10_isOtherWay_133 : decode cX10_isOtherWay 133 = .ok (.iload_n 1, 1) := by decide +kernel
theorem dX10_isOtherWay_134 : decode cX10_isOtherWay 134 = .ok (.iaload, 1) := by decide +kernel
theorem dX10_isOtherWay_135 : decode cX10_isOtherWay 135 = .ok (.bipush 107, 2) := by decide +kernel
theorem dX10_isOtherWay_137 : decode cX10_isOtherWay 137 = .ok (.if_icmp .ne 63, 3) := by decide +kernel
theorem dX10_isOtherWay_140 : decode cX10_isOtherWay 140 = .ok (.iload 5, 2) := by decide +kernel
theorem dX10_isOtherWay_142 : decode cX10_isOtherWay 142 = .ok (.iconst 1, 1) := by decide +kernel
theorem dX10_isOtherWay_143 : decode cX10_isOtherWay 143 = .ok (.iadd, 1) := by decide +kernel
theorem dX10_isOtherWay_144 : decode cX10_isOtherWay 144 = .ok (.istore 6, 2) := by decide +kernel
theorem dX10_isOtherWay_146 : decode cX10_isOtherWay 146 = .ok (.iload 6, 2) := by decide +kernel
theorem dX10_isOtherWay_148 : decode cX10_isOtherWay 148 = .ok (.iload_n 3, 1) := by decide +kernel
theorem dX10_isOtherWay_149 : decode cX10_isOtherWay 149 = .ok (.if_icmp .ge 45, 3) := by decide +kernel
theorem dX10_isOtherWay_152 : decode cX10_isOtherWay 152 = .ok (.iload 4, 2) := by decide +kernel
theorem dX10_isOtherWay_154 : decode cX10_isOtherWay 154 = .ok (.ifCond .ne 27, 3) := by decide +kernel
theorem dX10_isOtherWay_157 : decode cX10_isOtherWay 157 = .ok (.aload_n 0, 1) := by decide +kernel
theorem dX10_isOtherWay_158 : decode cX10_isOtherWay 158 = .ok (.aload_n 0, 1) := by decide +kernel
theorem dX10_isOtherWay_159 : decode cX10_isOtherWay 159 = .ok (.getfield 77, 3) := by decide +kernel
theorem dX10_isOtherWay_162 : decode cX10_isOtherWay 162 = .ok (.iload 5, 2) := by decide +kernel
theorem dX10_isOtherWay_164 : decode cX10_isOtherWay 164 = .ok (.iaload, 1) := by decide +kernel
theorem dX10_isOtherWay_165 : decode cX10_isOtherWay 165 = .ok (.invokevirtual 166, 3) := by decide +kernel
theorem dX10_isOtherWay_168 : decode cX10_isOtherWay 168 = .ok (.aload_n 0, 1) := by decide +kernel
theorem dX10_isOtherWay_169 : decode cX10_isOtherWay 169 = .ok (.getfield 77, 3) := by decide +kernel
theorem dX10_isOtherWay_172 : decode cX10_isOtherWay 172 = .ok (.iload 6, 2) := by decide +kernel
theorem dX10_isOtherWay_174 : decode cX10_isOtherWay 174 = .ok (.iaload, 1) := by decide +kernel
theorem dX10_isOtherWay_175 : decode cX10_isOtherWay 175 = .ok (.invokestatic 146, 3) := by decide +kernel
theorem dX10_isOtherWay_178 : decode cX10_isOtherWay 178 = .ok (.ifCond .ne 7, 3) := by decide +kernel
theorem dX10_isOtherWay_181 : decode cX10_isOtherWay 181 = .ok (.iconst 1, 1) := by decide +kernel
theorem dX10_isOtherWay_182 : decode cX10_isOtherWay 182 = .ok (.goto 4, 3) := by decide +kernel
theorem dX10_isOtherWay_185 : decode cX10_isOtherWay 185 = .ok (.iconst 0, 1) := by decide +kernel
theorem dX10_isOtherWay_186 : decode cX10_isOtherWay 186 = .ok (.istore 4, 2) := by decide +kernel
theorem dX10_isOtherWay_188 : decode cX10_isOtherWay 188 = .ok (.iinc 6 1, 3) := by decide +kernel
theorem dX10_isOtherWay_191 : decode cX10_isOtherWay 191 = .ok (.goto (-45), 3) := by decide +kernel
theorem dX10_isOtherWay_194 : decode cX10_isOtherWay 194 = .ok (.iinc 5 1, 3) := by decide +kernel
theorem dX10_isOtherWay_197 : decode cX10_isOtherWay 197 = .ok (.goto (-74), 3) := by decide +kernel
theorem dX10_isOtherWay_200 : decode cX10_isOtherWay 200 = .ok (.iload 4, 2) := by decide +kernel
theorem dX10_isOtherWay_202 : decode cX10_isOtherWay 202 = .ok (.ireturn, 1) := by decide +kernel
theorem dX10_isTopped_0 : decode cX10_isTopped 0 = .ok (.iconst 0, 1) := by decide +kernel
theorem dX10_isTopped_1 : decode cX10_isTopped 1 = .ok (.istore_n 2, 1) := by decide +kernel
theorem dX10_isTopped_2 : decode cX10_isTopped 2 = .ok (.iconst 0, 1) := by decide +kernel
theorem dX10_isTopped_3 : decode cX10_isTopped 3 = .ok (.istore_n 3, 1) := by decide +kernel
theorem dX10_isTopped_4 : decode cX10_isTopped 4 = .ok (.iload_n 3, 1) := by decide +kernel
theorem dX10_isTopped_5 : decode cX10_isTopped 5 = .ok (.aload_n 0, 1) := by decide +kernel
theorem dX10_isTopped_6 : decode cX10_isTopped 6 = .ok (.invokevirtual 193, 3) := by decide +kernel
theorem dX10_isTopped_9 : decode cX10_isTopped 9 = .ok (.if_icmp .ge 35, 3) := by decide +kernel
theorem dX10_isTopped_12 : decode cX10_isTopped 12 = .ok (.iload_n 2, 1) := by decide +kernel
theorem dX10_isTopped_13 : decode cX10_isTopped 13 = .ok (.ifCond .ne 19, 3) := by decide +kernel
theorem dX10_isTopped_16 : decode cX10_isTopped 16 = .ok (.aload_n 0, 1) := by decide +kernel
theorem dX10_isTopped_17 : decode cX10_isTopped 17 = .ok (.iload_n 1, 1) := by decide +kernel
theorem dX10_isTopped_18 : decode cX10_isTopped 18 = .ok (.invokevirtual 338, 3) := by decide +kernel
theorem dX10_isTopped_21 : decode cX10_isTopped 21 = .ok (.aload_n 0, 1) := by decide +kernel
theorem dX10_isTopped_22 : decode cX10_isTopped 22 = .ok (.iload_n 3, 1) := by decide +kernel
theorem dX10_isTopped_23 : decode cX10_isTopped 23 = .ok (.invokevirtual 166, 3) := by decide +kernel
theorem dX10_isTopped_26 : decode cX10_isTopped 26 = .ok (.invokestatic 105, 3) := by decide +kernel
theorem dX10_isTopped_29 : decode cX10_isTopped 29 = .ok (.ifCond .eq 7, 3) := by decide +kernel
theorem dX10_isTopped_32 : decode cX10_isTopped 32 = .ok (.iconst 1, 1) := by decide +kernel
theorem dX10_isTopped_33 : decode cX10_isTopped 33 = .ok (.goto 4, 3) := by decide +kernel
theorem dX10_isTopped_36 : decode cX10_isTopped 36 = .ok (.iconst 0, 1) := by decide +kernel
theorem dX10_isTopped_37 : decode cX10_isTopped 37 = .ok (.istore_n 2, 1) := by decide +kernel
theorem dX10_isTopped_38 : decode cX10_isTopped 38 = .ok (.iinc 3 1, 3) := by decide +kernel
theorem dX10_isTopped_41 : decode cX10_isTopped 41 = .ok (.goto (-37), 3) := by decide +kernel
theorem dX10_isTopped_44 : decode cX10_isTopped 44 = .ok (.iload_n 2, 1) := by decide +kernel
theorem dX10_isTopped_45 : decode cX10_isTopped 45 = .ok (.ireturn, 1) := by decide +kernel
theorem dX10_sumOf_0 : decode cX10_sumOf 0 = .ok (.iconst 0, 1) := by decide +kernel
theorem dX10_sumOf_1 : decode cX10_sumOf 1 = .ok (.istore_n 2, 1) := by decide +kernel
theorem dX10_sumOf_2 : decode cX10_sumOf 2 = .ok (.aload_n 0, 1) := by decide +kernel
theorem dX10_sumOf_3 : decode cX10_sumOf 3 = .ok (.getfield 80, 3) := by decide +kernel
theorem dX10_sumOf_6 : decode cX10_sumOf 6 = .ok (.iload_n 1, 1) := by decide +kernel
theorem dX10_sumOf_7 : decode cX10_sumOf 7 = .ok (.iaload, 1) := by decide +kernel
theorem dX10_sumOf_8 : decode cX10_sumOf 8 = .ok (.istore_n 3, 1) := by decide +kernel
theorem dX10_sumOf_9 : decode cX10_sumOf 9 = .ok (.iload_n 3, 1) := by decide +kernel
theorem dX10_sumOf_10 : decode cX10_sumOf 10 = .ok (.aload_n 0, 1) := by decide +kernel
theorem dX10_sumOf_11 : decode cX10_sumOf 11 = .ok (.iload_n 1, 1) := by decide +kernel
theorem dX10_sumOf_12 : decode cX10_sumOf 12 = .ok (.invokevirtual 335, 3) := by decide +kernel
theorem dX10_sumOf_15 : decode cX10_sumOf 15 = .ok (.if_icmp .ge 36, 3) := by decide +kernel
theorem dX10_sumOf_18 : decode cX10_sumOf 18 = .ok (.iload_n 2, 1) := by decide +kernel
theorem dX10_sumOf_19 : decode cX10_sumOf 19 = .ok (.aload_n 0, 1) := by decide +kernel
theorem dX10_sumOf_20 : decode cX10_sumOf 20 = .ok (.getfield 77, 3) := by decide +kernel
theorem dX10_sumOf_23 : decode cX10_sumOf 23 = .ok (.iload_n 3, 1) := by decide +kernel
theorem dX10_sumOf_24 : decode cX10_sumOf 24 = .ok (.iaload, 1) := by decide +kernel
theorem dX10_sumOf_25 : decode cX10_sumOf 25 = .ok (.bipush 100, 2) := by decide +kernel
theorem dX10_sumOf_27 : decode cX10_sumOf 27 = .ok (.if_icmp .lt 15, 3) := by decide +kernel
theorem dX10_sumOf_30 : decode cX10_sumOf 30 = .ok (.aload_n 0, 1) := by decide +kernel
theorem dX10_sumOf_31 : decode cX10_sumOf 31 = .ok (.getfield 77, 3) := by decide +kernel
theorem dX10_sumOf_34 : decode cX10_sumOf 34 = .ok (.iload_n 3, 1) := by decide +kernel
theorem dX10_sumOf_35 : decode cX10_sumOf 35 = .ok (.iaload, 1) := by decide +kernel
theorem dX10_sumOf_36 : decode cX10_sumOf 36 = .ok (.bipush 100, 2) := by decide +kernel
theorem dX10_sumOf_38 : decode cX10_sumOf 38 = .ok (.isub, 1) := by decide +kernel
theorem dX10_sumOf_39 : decode cX10_sumOf 39 = .ok (.goto 4, 3) := by decide +kernel
theorem dX10_sumOf_42 : decode cX10_sumOf 42 = .ok (.iconst 0, 1) := by decide +kernel
theorem dX10_sumOf_43 : decode cX10_sumOf 43 = .ok (.iadd, 1) := by decide +kernel
theorem dX10_sumOf_44 : decode cX10_sumOf 44 = .ok (.istore_n 2, 1) := by decide +kernel
theorem dX10_sumOf_45 : decode cX10_sumOf 45 = .ok (.iinc 3 1, 3) := by decide +kernel
theorem dX10_sumOf_48 : decode cX10_sumOf 48 = .ok (.goto (-39), 3) := by decide +kernel
theorem dX10_sumOf_51 : decode cX10_sumOf 51 = .ok (.iload_n 2, 1) := by decide +kernel
theorem dX10_sumOf_52 : decode cX10_sumOf 52 = .ok (.ireturn, 1) := by decide +kernel
theorem dX10_isOtherOrder_0 : decode cX10_isOtherOrder 0 = .ok (.aload_n 0, 1) := by decide +kernel
theorem dX10_isOtherOrder_1 : decode cX10_isOtherOrder 1 = .ok (.getfield 80, 3) := by decide +kernel
theorem dX10_isOtherOrder_4 : decode cX10_isOtherOrder 4 = .ok (.iload_n 1, 1) := by decide +kernel
theorem dX10_isOtherOrder_5 : decode cX10_isOtherOrder 5 = .ok (.iaload, 1) := by decide +kernel
theorem dX10_isOtherOrder_6 : decode cX10_isOtherOrder 6 = .ok (.iconst 1, 1) := by decide +kernel
theorem dX10_isOtherOrder_7 : decode cX10_isOtherOrder 7 = .ok (.iadd, 1) := by decide +kernel
theorem dX10_isOtherOrder_8 : decode cX10_isOtherOrder 8 = .ok (.istore_n 2, 1) := by decide +kernel
theorem dX10_isOtherOrder_9 : decode cX10_isOtherOrder 9 = .ok (.iconst 0, 1) := by decide +kernel
theorem dX10_isOtherOrder_10 : decode cX10_isOtherOrder 10 = .ok (.istore_n 3, 1) := by decide +kernel
theorem dX10_isOtherOrder_11 : decode cX10_isOtherOrder 11 = .ok (.iload_n 2, 1) := by decide +kernel
theorem dX10_isOtherOrder_12 : decode cX10_isOtherOrder 12 = .ok (.istore 4, 2) := by decide +kernel
theorem dX10_isOtherOrder_14 : decode cX10_isOtherOrder 14 = .ok (.iload 4, 2) := by decide +kernel
theorem dX10_isOtherOrder_16 : decode cX10_isOtherOrder 16 = .ok (.aload_n 0, 1) := by decide +kernel
theorem dX10_isOtherOrder_17 : decode cX10_isOtherOrder 17 = .ok (.iload_n 1, 1) := by decide +kernel
theorem dX10_isOtherOrder_18 : decode cX10_isOtherOrder 18 = .ok (.invokevirtual 335, 3) := by decide +kernel
theorem dX10_isOtherOrder_21 : decode cX10_isOtherOrder 21 = .ok (.if_icmp .ge 63, 3) := by decide +kernel
theorem dX10_isOtherOrder_24 : decode cX10_isOtherOrder 24 = .ok (.iload 4, 2) := by decide +kernel
theorem dX10_isOtherOrder_26 : decode cX10_isOtherOrder 26 = .ok (.iconst 1, 1) := by decide +kernel
theorem dX10_isOtherOrder_27 : decode cX10_isOtherOrder 27 = .ok (.iadd, 1) := by decide +kernel
theorem dX10_isOtherOrder_28 : decode cX10_isOtherOrder 28 = .ok (.istore 5, 2) := by decide +kernel
theorem dX10_isOtherOrder_30 : decode cX10_isOtherOrder 30 = .ok (.iload 5, 2) := by decide +kernel
theorem dX10_isOtherOrder_32 : decode cX10_isOtherOrder 32 = .ok (.aload_n 0, 1) := by decide +kernel
theorem dX10_isOtherOrder_33 : decode cX10_isOtherOrder 33 = .ok (.iload_n 1, 1) := by decide +kernel
theorem dX10_isOtherOrder_34 : decode cX10_isOtherOrder 34 = .ok (.invokevirtual 335, 3) := by decide +kernel
theorem dX10_isOtherOrder_37 : decode cX10_isOtherOrder 37 = .ok (.if_icmp .ge 41, 3) := by decide +kernel
theorem dX10_isOtherOrder_40 : decode cX10_isOtherOrder 40 = .ok (.iload_n 3, 1) := by decide +kernel
theorem dX10_isOtherOrder_41 : decode cX10_isOtherOrder 41 = .ok (.aload_n 0, 1) := by decide +kernel
theorem dX10_isOtherOrder_42 : decode cX10_isOtherOrder 42 = .ok (.aload_n 0, 1) := by decide +kernel
theorem dX10_isOtherOrder_43 : decode cX10_isOtherOrder 43 = .ok (.getfield 77, 3) := by decide +kernel
theorem dX10_isOtherOrder_46 : decode cX10_isOtherOrder 46 = .ok (.iload 5, 2) := by decide +kernel
theorem dX10_isOtherOrder_48 : decode cX10_isOtherOrder 48 = .ok (.iaload, 1) := by decide +kernel
theorem dX10_isOtherOrder_49 : decode cX10_isOtherOrder 49 = .ok (.invokevirtual 166, 3) := by decide +kernel
theorem dX10_isOtherOrder_52 : decode cX10_isOtherOrder 52 = .ok (.aload_n 0, 1) := by decide +kernel
theorem dX10_isOtherOrder_53 : decode cX10_isOtherOrder 53 = .ok (.getfield 77, 3) := by decide +kernel
theorem dX10_isOtherOrder_56 : decode cX10_isOtherOrder 56 = .ok (.iload 4, 2) := by decide +kernel
theorem dX10_isOtherOrder_58 : decode cX10_isOtherOrder 58 = .ok (.iaload, 1) := by decide +kernel
theorem dX10_isOtherOrder_59 : decode cX10_isOtherOrder 59 = .ok (.invokestatic 146, 3) := by decide +kernel
theorem dX10_isOtherOrder_62 : decode cX10_isOtherOrder 62 = .ok (.ifCond .eq 7, 3) := by decide +kernel
theorem dX10_isOtherOrder_65 : decode cX10_isOtherOrder 65 = .ok (.iconst 1, 1) := by decide +kernel
theorem dX10_isOtherOrder_66 : decode cX10_isOtherOrder 66 = .ok (.goto 4, 3) := by decide +kernel
theorem dX10_isOtherOrder_69 : decode cX10_isOtherOrder 69 = .ok (.iconst 0, 1) := by decide +kernel
theorem dX10_isOtherOrder_70 : decode cX10_isOtherOrder 70 = .ok (.iadd, 1) := by decide +kernel
theorem dX10_isOtherOrder_71 : decode cX10_isOtherOrder 71 = .ok (.istore_n 3, 1) := by decide +kernel
theorem dX10_isOtherOrder_72 : decode cX10_isOtherOrder 72 = .ok (.iinc 5 1, 3) := by decide +kernel
theorem dX10_isOtherOrder_75 : decode cX10_isOtherOrder 75 = .ok (.goto (-45), 3) := by decide +kernel
theorem dX10_isOtherOrder_78 : decode cX10_isOtherOrder 78 = .ok (.iinc 4 1, 3) := by decide +kernel
theorem dX10_isOtherOrder_81 : decode cX10_isOtherOrder 81 = .ok (.goto (-67), 3) := by decide +kernel
theorem dX10_isOtherOrder_84 : decode cX10_isOtherOrder 84 = .ok (.aload_n 0, 1) := by decide +kernel
theorem dX10_isOtherOrder_85 : decode cX10_isOtherOrder 85 = .ok (.invokevirtual 218, 3) := by decide +kernel
theorem dX10_isOtherOrder_88 : decode cX10_isOtherOrder 88 = .ok (.iload_n 3, 1) := by decide +kernel
theorem dX10_isOtherOrder_89 : decode cX10_isOtherOrder 89 = .ok (.aload_n 0, 1) := by decide +kernel
theorem dX10_isOtherOrder_90 : decode cX10_isOtherOrder 90 = .ok (.getfield 77, 3) := by decide +kernel
theorem dX10_isOtherOrder_93 : decode cX10_isOtherOrder 93 = .ok (.iload_n 2, 1) := by decide +kernel
theorem dX10_isOtherOrder_94 : decode cX10_isOtherOrder 94 = .ok (.iconst 1, 1) := by decide +kernel
theorem dX10_isOtherOrder_95 : decode cX10_isOtherOrder 95 = .ok (.isub, 1) := by decide +kernel
theorem dX10_isOtherOrder_96 : decode cX10_isOtherOrder 96 = .ok (.iaload, 1) := by decide +kernel
theorem dX10_isOtherOrder_97 : decode cX10_isOtherOrder 97 = .ok (.bipush 100, 2) := by decide +kernel
theorem dX10_isOtherOrder_99 : decode cX10_isOtherOrder 99 = .ok (.isub, 1) := by decide +kernel
theorem dX10_isOtherOrder_100 : decode cX10_isOtherOrder 100 = .ok (.if_icmp .ne 16, 3) := by decide +kernel
theorem dX10_isOtherOrder_103 : decode cX10_isOtherOrder 103 = .ok (.iload_n 3, 1) := by decide +kernel
theorem dX10_isOtherOrder_104 : decode cX10_isOtherOrder 104 = .ok (.aload_n 0, 1) := by decide +kernel
theorem dX10_isOtherOrder_105 : decode cX10_isOtherOrder 105 = .ok (.getfield 47, 3) := by decide +kernel
theorem dX10_isOtherOrder_108 : decode cX10_isOtherOrder 108 = .ok (.aload_n 0, 1) := by decide +kernel
theorem dX10_isOtherOrder_109 : decode cX10_isOtherOrder 109 = .ok (.invokevirtual 101, 3) := by decide +kernel
theorem dX10_isOtherOrder_112 : decode cX10_isOtherOrder 112 = .ok (.iaload, 1) := by decide +kernel
theorem dX10_isOtherOrder_113 : decode cX10_isOtherOrder 113 = .ok (.if_icmp .eq 7, 3) := by decide +kernel
theorem dX10_isOtherOrder_116 : decode cX10_isOtherOrder 116 = .ok (.iconst 1, 1) := by decide +kernel
theorem dX10_isOtherOrder_117 : decode cX10_isOtherOrder 117 = .ok (.goto 4, 3) := by decide +kernel
theorem dX10_isOtherOrder_120 : decode cX10_isOtherOrder 120 = .ok (.iconst 0, 1) := by decide +kernel
theorem dX10_isOtherOrder_121 : decode cX10_isOtherOrder 121 = .ok (.ireturn, 1) := by decide +kernel
theorem dX10_isOtherWeights_0 : decode cX10_isOtherWeights 0 = .ok (.aload_n 0, 1) := by decide +kernel
theorem dX10_isOtherWeights_1 : decode cX10_isOtherWeights 1 = .ok (.aload_n 0, 1) := by decide +kernel
theorem dX10_isOtherWeights_2 : decode cX10_isOtherWeights 2 = .ok (.invokevirtual 101, 3) := by decide +kernel
theorem dX10_isOtherWeights_5 : decode cX10_isOtherWeights 5 = .ok (.invokevirtual 272, 3) := by decide +kernel
theorem dX10_isOtherWeights_8 : decode cX10_isOtherWeights 8 = .ok (.istore_n 2, 1) := by decide +kernel
theorem dX10_isOtherWeights_9 : decode cX10_isOtherWeights 9 = .ok (.iconst 0, 1) := by decide +kernel
theorem dX10_isOtherWeights_10 : decode cX10_isOtherWeights 10 = .ok (.istore_n 3, 1) := by decide +kernel
theorem dX10_isOtherWeights_11 : decode cX10_isOtherWeights 11 = .ok (.iconst 0, 1) := by decide +kernel
theorem dX10_isOtherWeights_12 : decode cX10_isOtherWeights 12 = .ok (.istore 4, 2) := by decide +kernel
theorem dX10_isOtherWeights_14 : decode cX10_isOtherWeights 14 = .ok (.iload 4, 2) := by decide +kernel
theorem dX10_isOtherWeights_16 : decode cX10_isOtherWeights 16 = .ok (.aload_n 0, 1) := by decide +kernel
theorem dX10_isOtherWeights_17 : decode cX10_isOtherWeights 17 = .ok (.invokevirtual 193, 3) := by decide +kernel
theorem dX10_isOtherWeights_20 : decode cX10_isOtherWeights 20 = .ok (.if_icmp .ge 32, 3) := by decide +kernel
theorem dX10_isOtherWeights_23 : decode cX10_isOtherWeights 23 = .ok (.iload_n 3, 1) := by decide +kernel
theorem dX10_isOtherWeights_24 : decode cX10_isOtherWeights 24 = .ok (.iload_n 2, 1) := by decide +kernel
theorem dX10_isOtherWeights_25 : decode cX10_isOtherWeights 25 = .ok (.iload 4, 2) := by decide +kernel
theorem dX10_isOtherWeights_27 : decode cX10_isOtherWeights 27 = .ok (.invokestatic 146, 3) := by decide +kernel
theorem dX10_isOtherWeights_30 : decode cX10_isOtherWeights 30 = .ok (.ifCond .eq 13, 3) := by decide +kernel
theorem dX10_isOtherWeights_33 : decode cX10_isOtherWeights 33 = .ok (.aload_n 0, 1) := by decide +kernel
theorem dX10_isOtherWeights_34 : decode cX10_isOtherWeights 34 = .ok (.getfield 56, 3) := by decide +kernel
theorem dX10_isOtherWeights_37 : decode cX10_isOtherWeights 37 = .ok (.iload 4, 2) := by decide +kernel
theorem dX10_isOtherWeights_39 : decode cX10_isOtherWeights 39 = .ok (.iaload, 1) := by decide +kernel
theorem dX10_isOtherWeights_40 : decode cX10_isOtherWeights 40 = .ok (.goto 4, 3) := by decide +kernel
theorem dX10_isOtherWeights_43 : decode cX10_isOtherWeights 43 = .ok (.iconst 0, 1) := by decide +kernel
theorem dX10_isOtherWeights_44 : decode cX10_isOtherWeights 44 = .ok (.iadd, 1) := by decide +kernel
theorem dX10_isOtherWeights_45 : decode cX10_isOtherWeights 45 = .ok (.istore_n 3, 1) := by decide +kernel
theorem dX10_isOtherWeights_46 : decode cX10_isOtherWeights 46 = .ok (.iinc 4 1, 3) := by decide +kernel
theorem dX10_isOtherWeights_49 : decode cX10_isOtherWeights 49 = .ok (.goto (-35), 3) := by decide +kernel
theorem dX10_isOtherWeights_52 : decode cX10_isOtherWeights 52 = .ok (.aload_n 0, 1) := by decide +kernel
theorem dX10_isOtherWeights_53 : decode cX10_isOtherWeights 53 = .ok (.iload_n 1, 1) := by decide +kernel
theorem dX10_isOtherWeights_54 : decode cX10_isOtherWeights 54 = .ok (.invokevirtual 341, 3) := by decide +kernel
theorem dX10_isOtherWeights_57 : decode cX10_isOtherWeights 57 = .ok (.istore 4, 2) := by decide +kernel
theorem dX10_isOtherWeights_59 : decode cX10_isOtherWeights 59 = .ok (.iconst 0, 1) := by decide +kernel
theorem dX10_isOtherWeights_60 : decode cX10_isOtherWeights 60 = .ok (.istore 5, 2) := by decide +kernel
theorem dX10_isOtherWeights_62 : decode cX10_isOtherWeights 62 = .ok (.iconst 0, 1) := by decide +kernel
theorem dX10_isOtherWeights_63 : decode cX10_isOtherWeights 63 = .ok (.istore 6, 2) := by decide +kernel
theorem dX10_isOtherWeights_65 : decode cX10_isOtherWeights 65 = .ok (.aload_n 0, 1) := by decide +kernel
theorem dX10_isOtherWeights_66 : decode cX10_isOtherWeights 66 = .ok (.getfield 80, 3) := by decide +kernel
theorem dX10_isOtherWeights_69 : decode cX10_isOtherWeights 69 = .ok (.iload_n 1, 1) := by decide +kernel
theorem dX10_isOtherWeights_70 : decode cX10_isOtherWeights 70 = .ok (.iaload, 1) := by decide +kernel
theorem dX10_isOtherWeights_71 : decode cX10_isOtherWeights 71 = .ok (.istore 7, 2) := by decide +kernel
theorem dX10_isOtherWeights_73 : decode cX10_isOtherWeights 73 = .ok (.iload 7, 2) := by decide +kernel
theorem dX10_isOtherWeights_75 : decode cX10_isOtherWeights 75 = .ok (.aload_n 0, 1) := by decide +kernel
theorem dX10_isOtherWeights_76 : decode cX10_isOtherWeights 76 = .ok (.iload_n 1, 1) := by decide +kernel
theorem dX10_isOtherWeights_77 : decode cX10_isOtherWeights 77 = .ok (.invokevirtual 335, 3) := by decide +kernel
theorem dX10_isOtherWeights_80 : decode cX10_isOtherWeights 80 = .ok (.if_icmp .ge 66, 3) := by decide +kernel
theorem dX10_isOtherWeights_83 : decode cX10_isOtherWeights 83 = .ok (.aload_n 0, 1) := by decide +kernel
theorem dX10_isOtherWeights_84 : decode cX10_isOtherWeights 84 = .ok (.getfield 77, 3) := by decide +kernel
theorem dX10_isOtherWeights_87 : decode cX10_isOtherWeights 87 = .ok (.iload 7, 2) := by decide +kernel
theorem dX10_isOtherWeights_89 : decode cX10_isOtherWeights 89 = .ok (.iaload, 1) := by decide +kernel
theorem dX10_isOtherWeights_90 : decode cX10_isOtherWeights 90 = .ok (.istore 8, 2) := by decide +kernel
theorem dX10_isOtherWeights_92 : decode cX10_isOtherWeights 92 = .ok (.iload 6, 2) := by decide +kernel
theorem dX10_isOtherWeights_94 : decode cX10_isOtherWeights 94 = .ok (.iconst 1, 1) := by decide +kernel
theorem dX10_isOtherWeights_95 : decode cX10_isOtherWeights 95 = .ok (.iload 8, 2) := by decide +kernel
theorem dX10_isOtherWeights_97 : decode cX10_isOtherWeights 97 = .ok (.ishl, 1) := by decide +kernel
theorem dX10_isOtherWeights_98 : decode cX10_isOtherWeights 98 = .ok (.ior, 1) := by decide +kernel
theorem dX10_isOtherWeights_99 : decode cX10_isOtherWeights 99 = .ok (.istore 6, 2) := by decide +kernel
theorem dX10_isOtherWeights_101 : decode cX10_isOtherWeights 101 = .ok (.iload 5, 2) := by decide +kernel
theorem dX10_isOtherWeights_103 : decode cX10_isOtherWeights 103 = .ok (.ifCond .ne 30, 3) := by decide +kernel
theorem dX10_isOtherWeights_106 : decode cX10_isOtherWeights 106 = .ok (.aload_n 0, 1) := by decide +kernel
theorem dX10_isOtherWeights_107 : decode cX10_isOtherWeights 107 = .ok (.getfield 77, 3) := by decide +kernel
theorem dX10_isOtherWeights_110 : decode cX10_isOtherWeights 110 = .ok (.iload 7, 2) := by decide +kernel
theorem dX10_isOtherWeights_112 : decode cX10_isOtherWeights 112 = .ok (.iconst 1, 1) := by decide +kernel
theorem dX10_isOtherWeights_113 : decode cX10_isOtherWeights 113 = .ok (.iadd, 1) := by decide +kernel
theorem dX10_isOtherWeights_114 : decode cX10_isOtherWeights 114 = .ok (.iaload, 1) := by decide +kernel
theorem dX10_isOtherWeights_115 : decode cX10_isOtherWeights 115 = .ok (.bipush 100, 2) := by decide +kernel
theorem dX10_isOtherWeights_117 : decode cX10_isOtherWeights 117 = .ok (.isub, 1) := by decide +kernel
theorem dX10_isOtherWeights_118 : decode cX10_isOtherWeights 118 = .ok (.iload_n 3, 1) := by decide +kernel
theorem dX10_isOtherWeights_119 : decode cX10_isOtherWeights 119 = .ok (.imul, 1) := by decide +kernel
theorem dX10_isOtherWeights_120 : decode cX10_isOtherWeights 120 = .ok (.aload_n 0, 1) := by decide +kernel
theorem dX10_isOtherWeights_121 : decode cX10_isOtherWeights 121 = .ok (.getfield 56, 3) := by decide +kernel
theorem dX10_isOtherWeights_124 : decode cX10_isOtherWeights 124 = .ok (.iload 8, 2) := by decide +kernel
theorem dX10_isOtherWeights_126 : decode cX10_isOtherWeights 126 = .ok (.iaload, 1) := by decide +kernel
theorem dX10_isOtherWeights_127 : decode cX10_isOtherWeights 127 = .ok (.iload 4, 2) := by decide +kernel
theorem dX10_isOtherWeights_129 : decode cX10_isOtherWeights 129 = .ok (.imul, 1) := by decide +kernel
theorem dX10_isOtherWeights_130 : decode cX10_isOtherWeights 130 = .ok (.if_icmp .eq 7, 3) := by decide +kernel
theorem dX10_isOtherWeights_133 : decode cX10_isOtherWeights 133 = .ok (.iconst 1, 1) := by decide +kernel
theorem dX10_isOtherWeights_134 : decode cX10_isOtherWeights 134 = .ok (.goto 4, 3) := by decide +kernel
theorem dX10_isOtherWeights_137 : decode cX10_isOtherWeights 137 = .ok (.iconst 0, 1) := by decide +kernel
theorem dX10_isOtherWeights_138 : decode cX10_isOtherWeights 138 = .ok (.istore 5, 2) := by decide +kernel
theorem dX10_isOtherWeights_140 : decode cX10_isOtherWeights 140 = .ok (.iinc 7 2, 3) := by decide +kernel
theorem dX10_isOtherWeights_143 : decode cX10_isOtherWeights 143 = .ok (.goto (-70), 3) := by decide +kernel
theorem dX10_isOtherWeights_146 : decode cX10_isOtherWeights 146 = .ok (.iload 5, 2) := by decide +kernel
theorem dX10_isOtherWeights_148 : decode cX10_isOtherWeights 148 = .ok (.ifCond .ne 12, 3) := by decide +kernel
theorem dX10_isOtherWeights_151 : decode cX10_isOtherWeights 151 = .ok (.iload_n 2, 1) := by decide +kernel
theorem dX10_isOtherWeights_152 : decode cX10_isOtherWeights 152 = .ok (.iload 6, 2) := by decide +kernel
theorem dX10_isOtherWeights_154 : decode cX10_isOtherWeights 154 = .ok (.invokestatic 105, 3) := by decide +kernel
theorem dX10_isOtherWeights_157 : decode cX10_isOtherWeights 157 = .ok (.ifCond .ne 7, 3) := by decide +kernel
theorem dX10_isOtherWeights_160 : decode cX10_isOtherWeights 160 = .ok (.iconst 1, 1) := by decide +kernel
theorem dX10_isOtherWeights_161 : decode cX10_isOtherWeights 161 = .ok (.goto 4, 3) := by decide +kernel
theorem dX10_isOtherWeights_164 : decode cX10_isOtherWeights 164 = .ok (.iconst 0, 1) := by decide +kernel
theorem dX10_isOtherWeights_165 : decode cX10_isOtherWeights 165 = .ok (.ireturn, 1) := by decide +kernel
theorem dX10_isOther_0 : decode cX10_isOther 0 = .ok (.aload_n 0, 1) := by decide +kernel
theorem dX10_isOther_1 : decode cX10_isOther 1 = .ok (.getfield 83, 3) := by decide +kernel
theorem dX10_isOther_4 : decode cX10_isOther 4 = .ok (.iload_n 1, 1) := by decide +kernel
theorem dX10_isOther_5 : decode cX10_isOther 5 = .ok (.iaload, 1) := by decide +kernel
theorem dX10_isOther_6 : decode cX10_isOther 6 = .ok (.lookupswitch 92 #[(99, 54), (114, 73), (115, 42), (119, 48)], 42) := by decide +kernel
theorem dX10_isOther_48 : decode cX10_isOther 48 = .ok (.aload_n 0, 1) := by decide +kernel
theorem dX10_isOther_49 : decode cX10_isOther 49 = .ok (.iload_n 1, 1) := by decide +kernel
theorem dX10_isOther_50 : decode cX10_isOther 50 = .ok (.invokevirtual 344, 3) := by decide +kernel
theorem dX10_isOther_53 : decode cX10_isOther 53 = .ok (.ireturn, 1) := by decide +kernel
theorem dX10_isOther_54 : decode cX10_isOther 54 = .ok (.aload_n 0, 1) := by decide +kernel
theorem dX10_isOther_55 : decode cX10_isOther 55 = .ok (.iload_n 1, 1) := by decide +kernel
theorem dX10_isOther_56 : decode cX10_isOther 56 = .ok (.invokevirtual 347, 3) := by decide +kernel
theorem dX10_isOther_59 : decode cX10_isOther 59 = .ok (.ireturn, 1) := by decide +kernel
theorem dX10_isOther_60 : decode cX10_isOther 60 = .ok (.aload_n 0, 1) := by decide +kernel
theorem dX10_isOther_61 : decode cX10_isOther 61 = .ok (.aload_n 0, 1) := by decide +kernel
theorem dX10_isOther_62 : decode cX10_isOther 62 = .ok (.iload_n 1, 1) := by decide +kernel
theorem dX10_isOther_63 : decode cX10_isOther 63 = .ok (.invokevirtual 338, 3) := by decide +kernel
theorem dX10_isOther_66 : decode cX10_isOther 66 = .ok (.iconst 0, 1) := by decide +kernel
theorem dX10_isOther_67 : decode cX10_isOther 67 = .ok (.invokevirtual 294, 3) := by decide +kernel
theorem dX10_isOther_70 : decode cX10_isOther 70 = .ok (.ifCond .ne 7, 3) := by decide +kernel
theorem dX10_isOther_73 : decode cX10_isOther 73 = .ok (.iconst 1, 1) := by decide +kernel
theorem dX10_isOther_74 : decode cX10_isOther 74 = .ok (.goto 4, 3) := by decide +kernel
theorem dX10_isOther_77 : decode cX10_isOther 77 = .ok (.iconst 0, 1) := by decide +kernel
theorem dX10_isOther_78 : decode cX10_isOther 78 = .ok (.ireturn, 1) := by decide +kernel
theorem dX10_isOther_79 : decode cX10_isOther 79 = .ok (.aload_n 0, 1) := by decide +kernel
theorem dX10_isOther_80 : decode cX10_isOther 80 = .ok (.aload_n 0, 1) := by decide +kernel
theorem dX10_isOther_81 : decode cX10_isOther 81 = .ok (.iload_n 1, 1) := by decide +kernel
theorem dX10_isOther_82 : decode cX10_isOther 82 = .ok (.invokevirtual 338, 3) := by decide +kernel
theorem dX10_isOther_85 : decode cX10_isOther 85 = .ok (.iconst 1, 1) := by decide +kernel
theorem dX10_isOther_86 : decode cX10_isOther 86 = .ok (.invokevirtual 294, 3) := by decide +kernel
theorem dX10_isOther_89 : decode cX10_isOther 89 = .ok (.ifCond .ne 7, 3) := by decide +kernel
theorem dX10_isOther_92 : decode cX10_isOther 92 = .ok (.iconst 1, 1) := by decide +kernel
theorem dX10_isOther_93 : decode cX10_isOther 93 = .ok (.goto 4, 3) := by decide +kernel
theorem dX10_isOther_96 : decode cX10_isOther 96 = .ok (.iconst 0, 1) := by decide +kernel
theorem dX10_isOther_97 : decode cX10_isOther 97 = .ok (.ireturn, 1) := by decide +kernel
theorem dX10_isOther_98 : decode cX10_isOther 98 = .ok (.iconst 0, 1) := by decide +kernel
theorem dX10_isOther_99 : decode cX10_isOther 99 = .ok (.ireturn, 1) := by decide +kernel
theorem dX10_areAlike_0 : decode cX10_areAlike 0 = .ok (.aload_n 0, 1) := by decide +kernel
theorem dX10_areAlike_1 : decode cX10_areAlike 1 = .ok (.getfield 83, 3) := by decide +kernel
theorem dX10_areAlike_4 : decode cX10_areAlike 4 = .ok (.iload_n 1, 1) := by decide +kernel
theorem dX10_areAlike_5 : decode cX10_areAlike 5 = .ok (.iaload, 1) := by decide +kernel
theorem dX10_areAlike_6 : decode cX10_areAlike 6 = .ok (.aload_n 0, 1) := by decide +kernel
theorem dX10_areAlike_7 : decode cX10_areAlike 7 = .ok (.getfield 83, 3) := by decide +kernel
theorem dX10_areAlike_10 : decode cX10_areAlike 10 = .ok (.iload_n 2, 1) := by decide +kernel
theorem dX10_areAlike_11 : decode cX10_areAlike 11 = .ok (.iaload, 1) := by decide +kernel
theorem dX10_areAlike_12 : decode cX10_areAlike 12 = .ok (.if_icmp .ne 34, 3) := by decide +kernel
theorem dX10_areAlike_15 : decode cX10_areAlike 15 = .ok (.aload_n 0, 1) := by decide +kernel
theorem dX10_areAlike_16 : decode cX10_areAlike 16 = .ok (.iload_n 1, 1) := by decide +kernel
theorem dX10_areAlike_17 : decode cX10_areAlike 17 = .ok (.invokevirtual 335, 3) := by decide +kernel
theorem dX10_areAlike_20 : decode cX10_areAlike 20 = .ok (.aload_n 0, 1) := by decide +kernel
theorem dX10_areAlike_21 : decode cX10_areAlike 21 = .ok (.getfield 80, 3) := by decide +kernel
theorem dX10_areAlike_24 : decode cX10_areAlike 24 = .ok (.iload_n 1, 1) := by decide +kernel
theorem dX10_areAlike_25 : decode cX10_areAlike 25 = .ok (.iaload, 1) := by decide +kernel
theorem dX10_areAlike_26 : decode cX10_areAlike 26 = .ok (.isub, 1) := by decide +kernel
theorem dX10_areAlike_27 : decode cX10_areAlike 27 = .ok (.aload_n 0, 1) := by decide +kernel
theorem dX10_areAlike_28 : decode cX10_areAlike 28 = .ok (.iload_n 2, 1) := by decide +kernel
theorem dX10_areAlike_29 : decode cX10_areAlike 29 = .ok (.invokevirtual 335, 3) := by decide +kernel
theorem dX10_areAlike_32 : decode cX10_areAlike 32 = .ok (.aload_n 0, 1) := by decide +kernel
theorem dX10_areAlike_33 : decode cX10_areAlike 33 = .ok (.getfield 80, 3) := by decide +kernel
theorem dX10_areAlike_36 : decode cX10_areAlike 36 = .ok (.iload_n 2, 1) := by decide +kernel
theorem dX10_areAlike_37 : decode cX10_areAlike 37 = .ok (.iaload, 1) := by decide +kernel
theorem dX10_areAlike_38 : decode cX10_areAlike 38 = .ok (.isub, 1) := by decide +kernel
theorem dX10_areAlike_39 : decode cX10_areAlike 39 = .ok (.if_icmp .ne 7, 3) := by decide +kernel
theorem dX10_areAlike_42 : decode cX10_areAlike 42 = .ok (.iconst 1, 1) := by decide +kernel
theorem dX10_areAlike_43 : decode cX10_areAlike 43 = .ok (.goto 4, 3) := by decide +kernel
theorem dX10_areAlike_46 : decode cX10_areAlike 46 = .ok (.iconst 0, 1) := by decide +kernel
theorem dX10_areAlike_47 : decode cX10_areAlike 47 = .ok (.istore_n 3, 1) := by decide +kernel
theorem dX10_areAlike_48 : decode cX10_areAlike 48 = .ok (.iconst 0, 1) := by decide +kernel
theorem dX10_areAlike_49 : decode cX10_areAlike 49 = .ok (.istore 4, 2) := by decide +kernel
theorem dX10_areAlike_51 : decode cX10_areAlike 51 = .ok (.iload 4, 2) := by decide +kernel
theorem dX10_areAlike_53 : decode cX10_areAlike 53 = .ok (.aload_n 0, 1) := by decide +kernel
theorem dX10_areAlike_54 : decode cX10_areAlike 54 = .ok (.iload_n 1, 1) := by decide +kernel
theorem dX10_areAlike_55 : decode cX10_areAlike 55 = .ok (.invokevirtual 335, 3) := by decide +kernel
theorem dX10_areAlike_58 : decode cX10_areAlike 58 = .ok (.aload_n 0, 1) := by decide +kernel
theorem dX10_areAlike_59 : decode cX10_areAlike 59 = .ok (.getfield 80, 3) := by decide +kernel
theorem dX10_areAlike_62 : decode cX10_areAlike 62 = .ok (.iload_n 1, 1) := by decide +kernel
theorem dX10_areAlike_63 : decode cX10_areAlike 63 = .ok (.iaload, 1) := by decide +kernel
theorem dX10_areAlike_64 : decode cX10_areAlike 64 = .ok (.isub, 1) := by decide +kernel
theorem dX10_areAlike_65 : decode cX10_areAlike 65 = .ok (.if_icmp .ge 50, 3) := by decide +kernel
theorem dX10_areAlike_68 : decode cX10_areAlike 68 = .ok (.iload_n 3, 1) := by decide +kernel
theorem dX10_areAlike_69 : decode cX10_areAlike 69 = .ok (.ifCond .eq 46, 3) := by decide +kernel
theorem dX10_areAlike_72 : decode cX10_areAlike 72 = .ok (.aload_n 0, 1) := by decide +kernel
theorem dX10_areAlike_73 : decode cX10_areAlike 73 = .ok (.getfield 77, 3) := by decide +kernel
theorem dX10_areAlike_76 : decode cX10_areAlike 76 = .ok (.aload_n 0, 1) := by decide +kernel
theorem dX10_areAlike_77 : decode cX10_areAlike 77 = .ok (.getfield 80, 3) := by decide +kernel
theorem dX10_areAlike_80 : decode cX10_areAlike 80 = .ok (.iload_n 1, 1) := by decide +kernel
theorem dX10_areAlike_81 : decode cX10_areAlike 81 = .ok (.iaload, 1) := by decide +kernel
theorem dX10_areAlike_82 : decode cX10_areAlike 82 = .ok (.iload 4, 2) := by decide +kernel
theorem dX10_areAlike_84 : decode cX10_areAlike 84 = .ok (.iadd, 1) := by decide +kernel
theorem dX10_areAlike_85 : decode cX10_areAlike 85 = .ok (.iaload, 1) := by decide +kernel
theorem dX10_areAlike_86 : decode cX10_areAlike 86 = .ok (.aload_n 0, 1) := by decide +kernel
theorem dX10_areAlike_87 : decode cX10_areAlike 87 = .ok (.getfield 77, 3) := by decide +kernel
theorem dX10_areAlike_90 : decode cX10_areAlike 90 = .ok (.aload_n 0, 1) := by decide +kernel
theorem dX10_areAlike_91 : decode cX10_areAlike 91 = .ok (.getfield 80, 3) := by decide +kernel
theorem dX10_areAlike_94 : decode cX10_areAlike 94 = .ok (.iload_n 2, 1) := by decide +kernel
theorem dX10_areAlike_95 : decode cX10_areAlike 95 = .ok (.iaload, 1) := by decide +kernel
theorem dX10_areAlike_96 : decode cX10_areAlike 96 = .ok (.iload 4, 2) := by decide +kernel
theorem dX10_areAlike_98 : decode cX10_areAlike 98 = .ok (.iadd, 1) := by decide +kernel
theorem dX10_areAlike_99 : decode cX10_areAlike 99 = .ok (.iaload, 1) := by decide +kernel
theorem dX10_areAlike_100 : decode cX10_areAlike 100 = .ok (.if_icmp .ne 7, 3) := by decide +kernel
theorem dX10_areAlike_103 : decode cX10_areAlike 103 = .ok (.iconst 1, 1) := by decide +kernel
theorem dX10_areAlike_104 : decode cX10_areAlike 104 = .ok (.goto 4, 3) := by decide +kernel
theorem dX10_areAlike_107 : decode cX10_areAlike 107 = .ok (.iconst 0, 1) := by decide +kernel
theorem dX10_areAlike_108 : decode cX10_areAlike 108 = .ok (.istore_n 3, 1) := by decide +kernel
theorem dX10_areAlike_109 : decode cX10_areAlike 109 = .ok (.iinc 4 1, 3) := by decide +kernel
theorem dX10_areAlike_112 : decode cX10_areAlike 112 = .ok (.goto (-61), 3) := by decide +kernel
theorem dX10_areAlike_115 : decode cX10_areAlike 115 = .ok (.iload_n 3, 1) := by decide +kernel
theorem dX10_areAlike_116 : decode cX10_areAlike 116 = .ok (.ireturn, 1) := by decide +kernel
theorem dX10_wasSaid_0 : decode cX10_wasSaid 0 = .ok (.iconst 0, 1) := by decide +kernel
theorem dX10_wasSaid_1 : decode cX10_wasSaid 1 = .ok (.istore_n 2, 1) := by decide +kernel
theorem dX10_wasSaid_2 : decode cX10_wasSaid 2 = .ok (.iconst 0, 1) := by decide +kernel
theorem dX10_wasSaid_3 : decode cX10_wasSaid 3 = .ok (.istore_n 3, 1) := by decide +kernel
theorem dX10_wasSaid_4 : decode cX10_wasSaid 4 = .ok (.iload_n 3, 1) := by decide +kernel
theorem dX10_wasSaid_5 : decode cX10_wasSaid 5 = .ok (.iload_n 1, 1) := by decide +kernel
theorem dX10_wasSaid_6 : decode cX10_wasSaid 6 = .ok (.if_icmp .ge 28, 3) := by decide +kernel
theorem dX10_wasSaid_9 : decode cX10_wasSaid 9 = .ok (.iload_n 2, 1) := by decide +kernel
theorem dX10_wasSaid_10 : decode cX10_wasSaid 10 = .ok (.ifCond .ne 12, 3) := by decide +kernel
theorem dX10_wasSaid_13 : decode cX10_wasSaid 13 = .ok (.aload_n 0, 1) := by decide +kernel
theorem dX10_wasSaid_14 : decode cX10_wasSaid 14 = .ok (.iload_n 1, 1) := by decide +kernel
theorem dX10_wasSaid_15 : decode cX10_wasSaid 15 = .ok (.iload_n 3, 1) := by decide +kernel
theorem dX10_wasSaid_16 : decode cX10_wasSaid 16 = .ok (.invokevirtual 350, 3) := by decide +kernel
theorem dX10_wasSaid_19 : decode cX10_wasSaid 19 = .ok (.ifCond .eq 7, 3) := by decide +kernel
theorem dX10_wasSaid_22 : decode cX10_wasSaid 22 = .ok (.iconst 1, 1) := by decide +kernel
theorem dX10_wasSaid_23 : decode cX10_wasSaid 23 = .ok (.goto 4, 3) := by decide +kernel
theorem dX10_wasSaid_26 : decode cX10_wasSaid 26 = .ok (.iconst 0, 1) := by decide +kernel
theorem dX10_wasSaid_27 : decode cX10_wasSaid 27 = .ok (.istore_n 2, 1) := by decide +kernel
theorem dX10_wasSaid_28 : decode cX10_wasSaid 28 = .ok (.iinc 3 1, 3) := by decide +kernel
theorem dX10_wasSaid_31 : decode cX10_wasSaid 31 = .ok (.goto (-27), 3) := by decide +kernel
theorem dX10_wasSaid_34 : decode cX10_wasSaid 34 = .ok (.iload_n 2, 1) := by decide +kernel
theorem dX10_wasSaid_35 : decode cX10_wasSaid 35 = .ok (.ireturn, 1) := by decide +kernel
theorem dX10_whyWrong_0 : decode cX10_whyWrong 0 = .ok (.aload_n 0, 1) := by decide +kernel
theorem dX10_whyWrong_1 : decode cX10_whyWrong 1 = .ok (.getfield 83, 3) := by decide +kernel
theorem dX10_whyWrong_4 : decode cX10_whyWrong 4 = .ok (.iload_n 1, 1) := by decide +kernel
theorem dX10_whyWrong_5 : decode cX10_whyWrong 5 = .ok (.iaload, 1) := by decide +kernel
theorem dX10_whyWrong_6 : decode cX10_whyWrong 6 = .ok (.istore_n 2, 1) := by decide +kernel
theorem dX10_whyWrong_7 : decode cX10_whyWrong 7 = .ok (.aload_n 0, 1) := by decide +kernel
theorem dX10_whyWrong_8 : decode cX10_whyWrong 8 = .ok (.iload_n 1, 1) := by decide +kernel
theorem dX10_whyWrong_9 : decode cX10_whyWrong 9 = .ok (.invokevirtual 338, 3) := by decide +kernel
theorem dX10_whyWrong_12 : decode cX10_whyWrong 12 = .ok (.aload_n 0, 1) := by decide +kernel
theorem dX10_whyWrong_13 : decode cX10_whyWrong 13 = .ok (.invokevirtual 101, 3) := by decide +kernel
theorem dX10_whyWrong_16 : decode cX10_whyWrong 16 = .ok (.invokestatic 105, 3) := by decide +kernel
theorem dX10_whyWrong_19 : decode cX10_whyWrong 19 = .ok (.ifCond .ne 5, 3) := by decide +kernel
theorem dX10_whyWrong_22 : decode cX10_whyWrong 22 = .ok (.iconst 1, 1) := by decide +kernel
theorem dX10_whyWrong_23 : decode cX10_whyWrong 23 = .ok (.ireturn, 1) := by decide +kernel
theorem dX10_whyWrong_24 : decode cX10_whyWrong 24 = .ok (.aload_n 0, 1) := by decide +kernel
theorem dX10_whyWrong_25 : decode cX10_whyWrong 25 = .ok (.iload_n 1, 1) := by decide +kernel
theorem dX10_whyWrong_26 : decode cX10_whyWrong 26 = .ok (.invokevirtual 353, 3) := by decide +kernel
theorem dX10_whyWrong_29 : decode cX10_whyWrong 29 = .ok (.ifCond .eq 5, 3) := by decide +kernel
theorem dX10_whyWrong_32 : decode cX10_whyWrong 32 = .ok (.iconst 2, 1) := by decide +kernel
theorem dX10_whyWrong_33 : decode cX10_whyWrong 33 = .ok (.ireturn, 1) := by decide +kernel
theorem dX10_whyWrong_34 : decode cX10_whyWrong 34 = .ok (.aload_n 0, 1) := by decide +kernel
theorem dX10_whyWrong_35 : decode cX10_whyWrong 35 = .ok (.iload_n 1, 1) := by decide +kernel
theorem dX10_whyWrong_36 : decode cX10_whyWrong 36 = .ok (.invokevirtual 356, 3) := by decide +kernel
theorem dX10_whyWrong_39 : decode cX10_whyWrong 39 = .ok (.ifCond .eq 5, 3) := by decide +kernel
theorem dX10_whyWrong_42 : decode cX10_whyWrong 42 = .ok (.iconst 3, 1) := by decide +kernel
theorem dX10_whyWrong_43 : decode cX10_whyWrong 43 = .ok (.ireturn, 1) := by decide +kernel
theorem dX10_whyWrong_44 : decode cX10_whyWrong 44 = .ok (.iload_n 2, 1) := by decide +kernel
theorem dX10_whyWrong_45 : decode cX10_whyWrong 45 = .ok (.bipush 107, 2) := by decide +kernel
theorem dX10_whyWrong_47 : decode cX10_whyWrong 47 = .ok (.if_icmp .ne 14, 3) := by decide +kernel
theorem dX10_whyWrong_50 : decode cX10_whyWrong 50 = .ok (.aload_n 0, 1) := by decide +kernel
theorem dX10_whyWrong_51 : decode cX10_whyWrong 51 = .ok (.iload_n 1, 1) := by decide +kernel
theorem dX10_whyWrong_52 : decode cX10_whyWrong 52 = .ok (.invokevirtual 359, 3) := by decide +kernel
theorem dX10_whyWrong_55 : decode cX10_whyWrong 55 = .ok (.ifCond .eq 43, 3) := by decide +kernel
theorem dX10_whyWrong_58 : decode cX10_whyWrong 58 = .ok (.goto 38, 3) := by decide +kernel
theorem dX10_whyWrong_61 : decode cX10_whyWrong 61 = .ok (.iload_n 2, 1) := by decide +kernel
theorem dX10_whyWrong_62 : decode cX10_whyWrong 62 = .ok (.bipush 115, 2) := by decide +kernel
theorem dX10_whyWrong_64 : decode cX10_whyWrong 64 = .ok (.if_icmp .ne 18, 3) := by decide +kernel
theorem dX10_whyWrong_67 : decode cX10_whyWrong 67 = .ok (.aload_n 0, 1) := by decide +kernel
theorem dX10_whyWrong_68 : decode cX10_whyWrong 68 = .ok (.iload_n 1, 1) := by decide +kernel
theorem dX10_whyWrong_69 : decode cX10_whyWrong 69 = .ok (.invokevirtual 338, 3) := by decide +kernel
theorem dX10_whyWrong_72 : decode cX10_whyWrong 72 = .ok (.aload_n 0, 1) := by decide +kernel
theorem dX10_whyWrong_73 : decode cX10_whyWrong 73 = .ok (.invokevirtual 101, 3) := by decide +kernel
theorem dX10_whyWrong_76 : decode cX10_whyWrong 76 = .ok (.if_icmp .eq 22, 3) := by decide +kernel
theorem dX10_whyWrong_79 : decode cX10_whyWrong 79 = .ok (.goto 17, 3) := by decide +kernel
theorem dX10_whyWrong_82 : decode cX10_whyWrong 82 = .ok (.iload_n 2, 1) := by decide +kernel
theorem dX10_whyWrong_83 : decode cX10_whyWrong 83 = .ok (.bipush 119, 2) := by decide +kernel
theorem dX10_whyWrong_85 : decode cX10_whyWrong 85 = .ok (.if_icmp .ne 13, 3) := by decide +kernel
theorem dX10_whyWrong_88 : decode cX10_whyWrong 88 = .ok (.aload_n 0, 1) := by decide +kernel
theorem dX10_whyWrong_89 : decode cX10_whyWrong 89 = .ok (.iload_n 1, 1) := by decide +kernel
theorem dX10_whyWrong_90 : decode cX10_whyWrong 90 = .ok (.invokevirtual 341, 3) := by decide +kernel
theorem dX10_whyWrong_93 : decode cX10_whyWrong 93 = .ok (.ifCond .ne 5, 3) := by decide +kernel
theorem dX10_whyWrong_96 : decode cX10_whyWrong 96 = .ok (.iconst 4, 1) := by decide +kernel
theorem dX10_whyWrong_97 : decode cX10_whyWrong 97 = .ok (.ireturn, 1) := by decide +kernel
theorem dX10_whyWrong_98 : decode cX10_whyWrong 98 = .ok (.aload_n 0, 1) := by decide +kernel
theorem dX10_whyWrong_99 : decode cX10_whyWrong 99 = .ok (.iload_n 1, 1) := by decide +kernel
theorem dX10_whyWrong_100 : decode cX10_whyWrong 100 = .ok (.invokevirtual 362, 3) := by decide +kernel
theorem dX10_whyWrong_103 : decode cX10_whyWrong 103 = .ok (.ifCond .eq 7, 3) := by decide +kernel
theorem dX10_whyWrong_106 : decode cX10_whyWrong 106 = .ok (.iconst 5, 1) := by decide +kernel
theorem dX10_whyWrong_107 : decode cX10_whyWrong 107 = .ok (.goto 17, 3) := by decide +kernel
theorem dX10_whyWrong_110 : decode cX10_whyWrong 110 = .ok (.aload_n 0, 1) := by decide +kernel
theorem dX10_whyWrong_111 : decode cX10_whyWrong 111 = .ok (.iload_n 1, 1) := by decide +kernel
theorem dX10_whyWrong_112 : decode cX10_whyWrong 112 = .ok (.invokevirtual 365, 3) := by decide +kernel
theorem dX10_whyWrong_115 : decode cX10_whyWrong 115 = .ok (.ifCond .eq 8, 3) := by decide +kernel
theorem dX10_whyWrong_118 : decode cX10_whyWrong 118 = .ok (.bipush 6, 2) := by decide +kernel
theorem dX10_whyWrong_120 : decode cX10_whyWrong 120 = .ok (.goto 4, 3) := by decide +kernel
theorem dX10_whyWrong_123 : decode cX10_whyWrong 123 = .ok (.iconst 0, 1) := by decide +kernel
theorem dX10_whyWrong_124 : decode cX10_whyWrong 124 = .ok (.ireturn, 1) := by decide +kernel
theorem dX10_judge_0 : decode cX10_judge 0 = .ok (.aload_n 0, 1) := by decide +kernel
theorem dX10_judge_1 : decode cX10_judge 1 = .ok (.iconst 0, 1) := by decide +kernel
theorem dX10_judge_2 : decode cX10_judge 2 = .ok (.putfield 90, 3) := by decide +kernel
theorem dX10_judge_5 : decode cX10_judge 5 = .ok (.aload_n 0, 1) := by decide +kernel
theorem dX10_judge_6 : decode cX10_judge 6 = .ok (.invokevirtual 97, 3) := by decide +kernel
theorem dX10_judge_9 : decode cX10_judge 9 = .ok (.ifCond .ne 11, 3) := by decide +kernel
theorem dX10_judge_12 : decode cX10_judge 12 = .ok (.aload_n 0, 1) := by decide +kernel
theorem dX10_judge_13 : decode cX10_judge 13 = .ok (.iconst 0, 1) := by decide +kernel
theorem dX10_judge_14 : decode cX10_judge 14 = .ok (.putfield 112, 3) := by decide +kernel
theorem dX10_judge_17 : decode cX10_judge 17 = .ok (.bipush (-2), 2) := by decide +kernel
theorem dX10_judge_19 : decode cX10_judge 19 = .ok (.ireturn, 1) := by decide +kernel
theorem dX10_judge_20 : decode cX10_judge 20 = .ok (.aload_n 0, 1) := by decide +kernel
theorem dX10_judge_21 : decode cX10_judge 21 = .ok (.iconst 0, 1) := by decide +kernel
theorem dX10_judge_22 : decode cX10_judge 22 = .ok (.putfield 122, 3) := by decide +kernel
theorem dX10_judge_25 : decode cX10_judge 25 = .ok (.aload_n 0, 1) := by decide +kernel
theorem dX10_judge_26 : decode cX10_judge 26 = .ok (.iconst 1, 1) := by decide +kernel
theorem dX10_judge_27 : decode cX10_judge 27 = .ok (.putfield 115, 3) := by decide +kernel
theorem dX10_judge_30 : decode cX10_judge 30 = .ok (.aload_n 0, 1) := by decide +kernel
theorem dX10_judge_31 : decode cX10_judge 31 = .ok (.iconst 0, 1) := by decide +kernel
theorem dX10_judge_32 : decode cX10_judge 32 = .ok (.putfield 312, 3) := by decide +kernel
theorem dX10_judge_35 : decode cX10_judge 35 = .ok (.aload_n 0, 1) := by decide +kernel
theorem dX10_judge_36 : decode cX10_judge 36 = .ok (.iconst 0, 1) := by decide +kernel
theorem dX10_judge_37 : decode cX10_judge 37 = .ok (.putfield 326, 3) := by decide +kernel
theorem dX10_judge_40 : decode cX10_judge 40 = .ok (.aload_n 0, 1) := by decide +kernel
theorem dX10_judge_41 : decode cX10_judge 41 = .ok (.invokevirtual 368, 3) := by decide +kernel
theorem dX10_judge_44 : decode cX10_judge 44 = .ok (.aload_n 0, 1) := by decide +kernel
theorem dX10_judge_45 : decode cX10_judge 45 = .ok (.bipush 59, 2) := by decide +kernel
theorem dX10_judge_47 : decode cX10_judge 47 = .ok (.invokevirtual 142, 3) := by decide +kernel
theorem dX10_judge_50 : decode cX10_judge 50 = .ok (.ifCond .eq 10, 3) := by decide +kernel
theorem dX10_judge_53 : decode cX10_judge 53 = .ok (.aload_n 0, 1) := by decide +kernel
theorem dX10_judge_54 : decode cX10_judge 54 = .ok (.invokevirtual 368, 3) := by decide +kernel
theorem dX10_judge_57 : decode cX10_judge 57 = .ok (.goto (-13), 3) := by decide +kernel
theorem dX10_judge_60 : decode cX10_judge 60 = .ok (.aload_n 0, 1) := by decide +kernel
theorem dX10_judge_61 : decode cX10_judge 61 = .ok (.getfield 115, 3) := by decide +kernel
theorem dX10_judge_64 : decode cX10_judge 64 = .ok (.ifCond .eq 18, 3) := by decide +kernel
theorem dX10_judge_67 : decode cX10_judge 67 = .ok (.aload_n 0, 1) := by decide +kernel
theorem dX10_judge_68 : decode cX10_judge 68 = .ok (.invokevirtual 152, 3) := by decide +kernel
theorem dX10_judge_71 : decode cX10_judge 71 = .ok (.ifCond .ne 11, 3) := by decide +kernel
theorem dX10_judge_74 : decode cX10_judge 74 = .ok (.aload_n 0, 1) := by decide +kernel
theorem dX10_judge_75 : decode cX10_judge 75 = .ok (.aload_n 0, 1) := by decide +kernel
theorem dX10_judge_76 : decode cX10_judge 76 = .ok (.getfield 122, 3) := by decide +kernel
theorem dX10_judge_79 : decode cX10_judge 79 = .ok (.invokevirtual 135, 3) := by decide +kernel
theorem dX10_judge_82 : decode cX10_judge 82 = .ok (.aload_n 0, 1) := by decide +kernel
theorem dX10_judge_83 : decode cX10_judge 83 = .ok (.iconst 0, 1) := by decide +kernel
theorem dX10_judge_84 : decode cX10_judge 84 = .ok (.putfield 112, 3) := by decide +kernel
theorem dX10_judge_87 : decode cX10_judge 87 = .ok (.aload_n 0, 1) := by decide +kernel
theorem dX10_judge_88 : decode cX10_judge 88 = .ok (.getfield 115, 3) := by decide +kernel
theorem dX10_judge_91 : decode cX10_judge 91 = .ok (.ifCond .ne 12, 3) := by decide +kernel
theorem dX10_judge_94 : decode cX10_judge 94 = .ok (.sipush (-1000), 3) := by decide +kernel
theorem dX10_judge_97 : decode cX10_judge 97 = .ok (.aload_n 0, 1) := by decide +kernel
theorem dX10_judge_98 : decode cX10_judge 98 = .ok (.getfield 119, 3) := by decide +kernel
theorem dX10_judge_101 : decode cX10_judge 101 = .ok (.isub, 1) := by decide +kernel
theorem dX10_judge_102 : decode cX10_judge 102 = .ok (.ireturn, 1) := by decide +kernel
theorem dX10_judge_103 : decode cX10_judge 103 = .ok (.aload_n 0, 1) := by decide +kernel
theorem dX10_judge_104 : decode cX10_judge 104 = .ok (.iconst 1, 1) := by decide +kernel
theorem dX10_judge_105 : decode cX10_judge 105 = .ok (.putfield 371, 3) := by decide +kernel
theorem dX10_judge_108 : decode cX10_judge 108 = .ok (.aload_n 0, 1) := by decide +kernel
theorem dX10_judge_109 : decode cX10_judge 109 = .ok (.iconst (-1), 1) := by decide +kernel
theorem dX10_judge_110 : decode cX10_judge 110 = .ok (.putfield 86, 3) := by decide +kernel
theorem dX10_judge_113 : decode cX10_judge 113 = .ok (.aload_n 0, 1) := by decide +kernel
theorem dX10_judge_114 : decode cX10_judge 114 = .ok (.iconst 0, 1) := by decide +kernel
theorem dX10_judge_115 : decode cX10_judge 115 = .ok (.putfield 374, 3) := by decide +kernel
theorem dX10_judge_118 : decode cX10_judge 118 = .ok (.aload_n 0, 1) := by decide +kernel
theorem dX10_judge_119 : decode cX10_judge 119 = .ok (.aload_n 0, 1) := by decide +kernel
theorem dX10_judge_120 : decode cX10_judge 120 = .ok (.getfield 326, 3) := by decide +kernel
theorem dX10_judge_123 : decode cX10_judge 123 = .ok (.putfield 377, 3) := by decide +kernel
theorem dX10_judge_126 : decode cX10_judge 126 = .ok (.aload_n 0, 1) := by decide +kernel
theorem dX10_judge_127 : decode cX10_judge 127 = .ok (.iconst 0, 1) := by decide +kernel
theorem dX10_judge_128 : decode cX10_judge 128 = .ok (.putfield 380, 3) := by decide +kernel
theorem dX10_judge_131 : decode cX10_judge 131 = .ok (.iconst 0, 1) := by decide +kernel
theorem dX10_judge_132 : decode cX10_judge 132 = .ok (.istore_n 1, 1) := by decide +kernel
theorem dX10_judge_133 : decode cX10_judge 133 = .ok (.iload_n 1, 1) := by decide +kernel
theorem dX10_judge_134 : decode cX10_judge 134 = .ok (.aload_n 0, 1) := by decide +kernel
theorem dX10_judge_135 : decode cX10_judge 135 = .ok (.getfield 326, 3) := by decide +kernel
theorem dX10_judge_138 : decode cX10_judge 138 = .ok (.if_icmp .ge 112, 3) := by decide +kernel
theorem dX10_judge_141 : decode cX10_judge 141 = .ok (.aload_n 0, 1) := by decide +kernel
theorem dX10_judge_142 : decode cX10_judge 142 = .ok (.getfield 86, 3) := by decide +kernel
theorem dX10_judge_145 : decode cX10_judge 145 = .ok (.iconst (-1), 1) := by decide +kernel
theorem dX10_judge_146 : decode cX10_judge 146 = .ok (.if_icmp .ne 104, 3) := by decide +kernel
theorem dX10_judge_149 : decode cX10_judge 149 = .ok (.aload_n 0, 1) := by decide +kernel
theorem dX10_judge_150 : decode cX10_judge 150 = .ok (.aload_n 0, 1) := by decide +kernel
theorem dX10_judge_151 : decode cX10_judge 151 = .ok (.iload_n 1, 1) := by decide +kernel
theorem dX10_judge_152 : decode cX10_judge 152 = .ok (.invokevirtual 383, 3) := by decide +kernel
theorem dX10_judge_155 : decode cX10_judge 155 = .ok (.putfield 374, 3) := by decide +kernel
theorem dX10_judge_158 : decode cX10_judge 158 = .ok (.aload_n 0, 1) := by decide +kernel
theorem dX10_judge_159 : decode cX10_judge 159 = .ok (.getfield 374, 3) := by decide +kernel
theorem dX10_judge_162 : decode cX10_judge 162 = .ok (.ifCond .eq 11, 3) := by decide +kernel
theorem dX10_judge_165 : decode cX10_judge 165 = .ok (.aload_n 0, 1) := by decide +kernel
theorem dX10_judge_166 : decode cX10_judge 166 = .ok (.iload_n 1, 1) := by decide +kernel
theorem dX10_judge_167 : decode cX10_judge 167 = .ok (.putfield 86, 3) := by decide +kernel
theorem dX10_judge_170 : decode cX10_judge 170 = .ok (.goto 74, 3) := by decide +kernel
theorem dX10_judge_173 : decode cX10_judge 173 = .ok (.aload_n 0, 1) := by decide +kernel
theorem dX10_judge_174 : decode cX10_judge 174 = .ok (.getfield 83, 3) := by decide +kernel
theorem dX10_judge_177 : decode cX10_judge 177 = .ok (.iload_n 1, 1) := by decide +kernel
theorem dX10_judge_178 : decode cX10_judge 178 = .ok (.iaload, 1) := by decide +kernel
theorem dX10_judge_179 : decode cX10_judge 179 = .ok (.bipush 107, 2) := by decide +kernel
theorem dX10_judge_181 : decode cX10_judge 181 = .ok (.if_icmp .ne 28, 3) := by decide +kernel
theorem dX10_judge_184 : decode cX10_judge 184 = .ok (.aload_n 0, 1) := by decide +kernel
theorem dX10_judge_185 : decode cX10_judge 185 = .ok (.dup, 1) := by decide +kernel
theorem dX10_judge_186 : decode cX10_judge 186 = .ok (.getfield 380, 3) := by decide +kernel
theorem dX10_judge_189 : decode cX10_judge 189 = .ok (.iconst 1, 1) := by decide +kernel
theorem dX10_judge_190 : decode cX10_judge 190 = .ok (.aload_n 0, 1) := by decide +kernel
theorem dX10_judge_191 : decode cX10_judge 191 = .ok (.getfield 77, 3) := by decide +kernel
theorem dX10_judge_194 : decode cX10_judge 194 = .ok (.aload_n 0, 1) := by decide +kernel
theorem dX10_judge_195 : decode cX10_judge 195 = .ok (.getfield 80, 3) := by decide +kernel
theorem dX10_judge_198 : decode cX10_judge 198 = .ok (.iload_n 1, 1) := by decide +kernel
theorem dX10_judge_199 : decode cX10_judge 199 = .ok (.iaload, 1) := by decide +kernel
theorem dX10_judge_200 : decode cX10_judge 200 = .ok (.iaload, 1) := by decide +kernel
theorem dX10_judge_201 : decode cX10_judge 201 = .ok (.ishl, 1) := by decide +kernel
theorem dX10_judge_202 : decode cX10_judge 202 = .ok (.ior, 1) := by decide +kernel
theorem dX10_judge_203 : decode cX10_judge 203 = .ok (.putfield 380, 3) := by decide +kernel
theorem dX10_judge_206 : decode cX10_judge 206 = .ok (.goto 38, 3) := by decide +kernel
theorem dX10_judge_209 : decode cX10_judge 209 = .ok (.aload_n 0, 1) := by decide +kernel
theorem dX10_judge_210 : decode cX10_judge 210 = .ok (.getfield 83, 3) := by decide +kernel
theorem dX10_judge_213 : decode cX10_judge 213 = .ok (.iload_n 1, 1) := by decide +kernel
theorem dX10_judge_214 : decode cX10_judge 214 = .ok (.iaload, 1) := by decide +kernel
theorem dX10_judge_215 : decode cX10_judge 215 = .ok (.bipush 115, 2) := by decide +kernel
theorem dX10_judge_217 : decode cX10_judge 217 = .ok (.if_icmp .ne 27, 3) := by decide +kernel
theorem dX10_judge_220 : decode cX10_judge 220 = .ok (.aload_n 0, 1) := by decide +kernel
theorem dX10_judge_221 : decode cX10_judge 221 = .ok (.dup, 1) := by decide +kernel
theorem dX10_judge_222 : decode cX10_judge 222 = .ok (.getfield 380, 3) := by decide +kernel
theorem dX10_judge_225 : decode cX10_judge 225 = .ok (.iconst 1, 1) := by decide +kernel
theorem dX10_judge_226 : decode cX10_judge 226 = .ok (.aload_n 0, 1) := by decide +kernel
theorem dX10_judge_227 : decode cX10_judge 227 = .ok (.getfield 77, 3) := by decide +kernel
theorem dX10_judge_230 : decode cX10_judge 230 = .ok (.aload_n 0, 1) := by decide +kernel
theorem dX10_judge_231 : decode cX10_judge 231 = .ok (.getfield 80, 3) := by decide +kernel
theorem dX10_judge_234 : decode cX10_judge 234 = .ok (.iload_n 1, 1) := by decide +kernel
theorem dX10_judge_235 : decode cX10_judge 235 = .ok (.iaload, 1) := by decide +kernel
theorem dX10_judge_236 : decode cX10_judge 236 = .ok (.iconst 1, 1) := by decide +kernel
theorem dX10_judge_237 : decode cX10_judge 237 = .ok (.iadd, 1) := by decide +kernel
theorem dX10_judge_238 : decode cX10_judge 238 = .ok (.iaload, 1) := by decide +kernel
theorem dX10_judge_239 : decode cX10_judge 239 = .ok (.ishl, 1) := by decide +kernel
theorem dX10_judge_240 : decode cX10_judge 240 = .ok (.ior, 1) := by decide +kernel
theorem dX10_judge_241 : decode cX10_judge 241 = .ok (.putfield 380, 3) := by decide +kernel
theorem dX10_judge_244 : decode cX10_judge 244 = .ok (.iinc 1 1, 3) := by decide +kernel
theorem dX10_judge_247 : decode cX10_judge 247 = .ok (.goto (-114), 3) := by decide +kernel
theorem dX10_judge_250 : decode cX10_judge 250 = .ok (.aload_n 0, 1) := by decide +kernel
theorem dX10_judge_251 : decode cX10_judge 251 = .ok (.getfield 86, 3) := by decide +kernel
theorem dX10_judge_254 : decode cX10_judge 254 = .ok (.iconst (-1), 1) := by decide +kernel
theorem dX10_judge_255 : decode cX10_judge 255 = .ok (.if_icmp .ne 10, 3) := by decide +kernel
theorem dX10_judge_258 : decode cX10_judge 258 = .ok (.aload_n 0, 1) := by decide +kernel
theorem dX10_judge_259 : decode cX10_judge 259 = .ok (.getfield 326, 3) := by decide +kernel
theorem dX10_judge_262 : decode cX10_judge 262 = .ok (.goto 7, 3) := by decide +kernel
theorem dX10_judge_265 : decode cX10_judge 265 = .ok (.aload_n 0, 1) := by decide +kernel
theorem dX10_judge_266 : decode cX10_judge 266 = .ok (.getfield 86, 3) := by decide +kernel
theorem dX10_judge_269 : decode cX10_judge 269 = .ok (.ireturn, 1) := by decide +kernel
theorem dX10_judged_0 : decode cX10_judged 0 = .ok (.aload_n 0, 1) := by decide +kernel
theorem dX10_judged_1 : decode cX10_judged 1 = .ok (.iconst 0, 1) := by decide +kernel
theorem dX10_judged_2 : decode cX10_judged 2 = .ok (.putfield 90, 3) := by decide +kernel
theorem dX10_judged_5 : decode cX10_judged 5 = .ok (.aload_n 0, 1) := by decide +kernel
theorem dX10_judged_6 : decode cX10_judged 6 = .ok (.getfield 371, 3) := by decide +kernel
theorem dX10_judged_9 : decode cX10_judged 9 = .ok (.ifCond .ne 5, 3) := by decide +kernel
theorem dX10_judged_12 : decode cX10_judged 12 = .ok (.iconst (-1), 1) := by decide +kernel
theorem dX10_judged_13 : decode cX10_judged 13 = .ok (.ireturn, 1) := by decide +kernel
theorem dX10_judged_14 : decode cX10_judged 14 = .ok (.iload_n 1, 1) := by decide +kernel
theorem dX10_judged_15 : decode cX10_judged 15 = .ok (.tableswitch 49 0 3 #[29, 34, 39, 44], 29) := by decide +kernel
theorem dX10_judged_44 : decode cX10_judged 44 = .ok (.aload_n 0, 1) := by decide +kernel
theorem dX10_judged_45 : decode cX10_judged 45 = .ok (.getfield 86, 3) := by decide +kernel
theorem dX10_judged_48 : decode cX10_judged 48 = .ok (.ireturn, 1) := by decide +kernel
theorem dX10_judged_49 : decode cX10_judged 49 = .ok (.aload_n 0, 1) := by decide +kernel
theorem dX10_judged_50 : decode cX10_judged 50 = .ok (.getfield 374, 3) := by decide +kernel
theorem dX10_judged_53 : decode cX10_judged 53 = .ok (.ireturn, 1) := by decide +kernel
theorem dX10_judged_54 : decode cX10_judged 54 = .ok (.aload_n 0, 1) := by decide +kernel
theorem dX10_judged_55 : decode cX10_judged 55 = .ok (.getfield 377, 3) := by decide +kernel
theorem dX10_judged_58 : decode cX10_judged 58 = .ok (.ireturn, 1) := by decide +kernel
theorem dX10_judged_59 : decode cX10_judged 59 = .ok (.aload_n 0, 1) := by decide +kernel
theorem dX10_judged_60 : decode cX10_judged 60 = .ok (.getfield 380, 3) := by decide +kernel
theorem dX10_judged_63 : decode cX10_judged 63 = .ok (.ireturn, 1) := by decide +kernel
theorem dX10_judged_64 : decode cX10_judged 64 = .ok (.iconst (-1), 1) := by decide +kernel
theorem dX10_judged_65 : decode cX10_judged 65 = .ok (.ireturn, 1) := by decide +kernel
theorem dX10_isIn_0 : decode cX10_isIn 0 = .ok (.aload_n 0, 1) := by decide +kernel
theorem dX10_isIn_1 : decode cX10_isIn 1 = .ok (.iload_n 2, 1) := by decide +kernel
theorem dX10_isIn_2 : decode cX10_isIn 2 = .ok (.aload_n 0, 1) := by decide +kernel
theorem dX10_isIn_3 : decode cX10_isIn 3 = .ok (.invokevirtual 101, 3) := by decide +kernel
theorem dX10_isIn_6 : decode cX10_isIn 6 = .ok (.invokevirtual 283, 3) := by decide +kernel
theorem dX10_isIn_9 : decode cX10_isIn 9 = .ok (.iload_n 1, 1) := by decide +kernel
theorem dX10_isIn_10 : decode cX10_isIn 10 = .ok (.invokestatic 146, 3) := by decide +kernel
theorem dX10_isIn_13 : decode cX10_isIn 13 = .ok (.ireturn, 1) := by decide +kernel
theorem dX10_byOne_0 : decode cX10_byOne 0 = .ok (.iconst 0, 1) := by decide +kernel
theorem dX10_byOne_1 : decode cX10_byOne 1 = .ok (.istore_n 3, 1) := by decide +kernel
theorem dX10_byOne_2 : decode cX10_byOne 2 = .ok (.iconst 0, 1) := by decide +kernel
theorem dX10_byOne_3 : decode cX10_byOne 3 = .ok (.istore 4, 2) := by decide +kernel
theorem dX10_byOne_5 : decode cX10_byOne 5 = .ok (.iload 4, 2) := by decide +kernel
theorem dX10_byOne_7 : decode cX10_byOne 7 = .ok (.aload_n 0, 1) := by decide +kernel
theorem dX10_byOne_8 : decode cX10_byOne 8 = .ok (.invokevirtual 193, 3) := by decide +kernel
theorem dX10_byOne_11 : decode cX10_byOne 11 = .ok (.if_icmp .ge 61, 3) := by decide +kernel
theorem dX10_byOne_14 : decode cX10_byOne 14 = .ok (.iload_n 3, 1) := by decide +kernel
theorem dX10_byOne_15 : decode cX10_byOne 15 = .ok (.ifCond .ne 57, 3) := by decide +kernel
theorem dX10_byOne_18 : decode cX10_byOne 18 = .ok (.iload 4, 2) := by decide +kernel
theorem dX10_byOne_20 : decode cX10_byOne 20 = .ok (.iconst 1, 1) := by decide +kernel
theorem dX10_byOne_21 : decode cX10_byOne 21 = .ok (.iadd, 1) := by decide +kernel
theorem dX10_byOne_22 : decode cX10_byOne 22 = .ok (.istore 5, 2) := by decide +kernel
theorem dX10_byOne_24 : decode cX10_byOne 24 = .ok (.iload 5, 2) := by decide +kernel
theorem dX10_byOne_26 : decode cX10_byOne 26 = .ok (.aload_n 0, 1) := by decide +kernel
theorem dX10_byOne_27 : decode cX10_byOne 27 = .ok (.invokevirtual 193, 3) := by decide +kernel
theorem dX10_byOne_30 : decode cX10_byOne 30 = .ok (.if_icmp .ge 36, 3) := by decide +kernel
theorem dX10_byOne_33 : decode cX10_byOne 33 = .ok (.iload_n 3, 1) := by decide +kernel
theorem dX10_byOne_34 : decode cX10_byOne 34 = .ok (.ifCond .ne 32, 3) := by decide +kernel
theorem dX10_byOne_37 : decode cX10_byOne 37 = .ok (.aload_n 0, 1) := by decide +kernel
theorem dX10_byOne_38 : decode cX10_byOne 38 = .ok (.iload 4, 2) := by decide +kernel
theorem dX10_byOne_40 : decode cX10_byOne 40 = .ok (.iload 5, 2) := by decide +kernel
theorem dX10_byOne_42 : decode cX10_byOne 42 = .ok (.invokevirtual 189, 3) := by decide +kernel
theorem dX10_byOne_45 : decode cX10_byOne 45 = .ok (.aload_n 0, 1) := by decide +kernel
theorem dX10_byOne_46 : decode cX10_byOne 46 = .ok (.iload_n 1, 1) := by decide +kernel
theorem dX10_byOne_47 : decode cX10_byOne 47 = .ok (.iload_n 2, 1) := by decide +kernel
theorem dX10_byOne_48 : decode cX10_byOne 48 = .ok (.invokevirtual 386, 3) := by decide +kernel
theorem dX10_byOne_51 : decode cX10_byOne 51 = .ok (.istore_n 3, 1) := by decide +kernel
theorem dX10_byOne_52 : decode cX10_byOne 52 = .ok (.aload_n 0, 1) := by decide +kernel
theorem dX10_byOne_53 : decode cX10_byOne 53 = .ok (.iload 4, 2) := by decide +kernel
theorem dX10_byOne_55 : decode cX10_byOne 55 = .ok (.iload 5, 2) := by decide +kernel
theorem dX10_byOne_57 : decode cX10_byOne 57 = .ok (.invokevirtual 189, 3) := by decide +kernel
theorem dX10_byOne_60 : decode cX10_byOne 60 = .ok (.iinc 5 1, 3) := by decide +kernel
theorem dX10_byOne_63 : decode cX10_byOne 63 = .ok (.goto (-39), 3) := by decide +kernel
theorem dX10_byOne_66 : decode cX10_byOne 66 = .ok (.iinc 4 1, 3) := by decide +kernel
theorem dX10_byOne_69 : decode cX10_byOne 69 = .ok (.goto (-64), 3) := by decide +kernel
theorem dX10_byOne_72 : decode cX10_byOne 72 = .ok (.iload_n 3, 1) := by decide +kernel
theorem dX10_byOne_73 : decode cX10_byOne 73 = .ok (.ireturn, 1) := by decide +kernel
theorem dX10_fewest_0 : decode cX10_fewest 0 = .ok (.aload_n 0, 1) := by decide +kernel
theorem dX10_fewest_1 : decode cX10_fewest 1 = .ok (.iconst 0, 1) := by decide +kernel
theorem dX10_fewest_2 : decode cX10_fewest 2 = .ok (.putfield 90, 3) := by decide +kernel
theorem dX10_fewest_5 : decode cX10_fewest 5 = .ok (.aload_n 0, 1) := by decide +kernel
theorem dX10_fewest_6 : decode cX10_fewest 6 = .ok (.iload_n 1, 1) := by decide +kernel
theorem dX10_fewest_7 : decode cX10_fewest 7 = .ok (.invokevirtual 170, 3) := by decide +kernel
theorem dX10_fewest_10 : decode cX10_fewest 10 = .ok (.ifCond .eq 15, 3) := by decide +kernel
theorem dX10_fewest_13 : decode cX10_fewest 13 = .ok (.iload_n 2, 1) := by decide +kernel
theorem dX10_fewest_14 : decode cX10_fewest 14 = .ok (.i2l, 1) := by decide +kernel
theorem dX10_fewest_15 : decode cX10_fewest 15 = .ok (.lconst 0, 1) := by decide +kernel
theorem dX10_fewest_16 : decode cX10_fewest 16 = .ok (.ldc2_w 281, 3) := by decide +kernel
theorem dX10_fewest_19 : decode cX10_fewest 19 = .ok (.invokestatic 93, 3) := by decide +kernel
theorem dX10_fewest_22 : decode cX10_fewest 22 = .ok (.ifCond .ne 5, 3) := by decide +kernel
theorem dX10_fewest_25 : decode cX10_fewest 25 = .ok (.iconst (-1), 1) := by decide +kernel
theorem dX10_fewest_26 : decode cX10_fewest 26 = .ok (.ireturn, 1) := by decide +kernel
theorem dX10_fewest_27 : decode cX10_fewest 27 = .ok (.aload_n 0, 1) := by decide +kernel
theorem dX10_fewest_28 : decode cX10_fewest 28 = .ok (.iload_n 1, 1) := by decide +kernel
theorem dX10_fewest_29 : decode cX10_fewest 29 = .ok (.iload_n 2, 1) := by decide +kernel
theorem dX10_fewest_30 : decode cX10_fewest 30 = .ok (.invokevirtual 386, 3) := by decide +kernel
theorem dX10_fewest_33 : decode cX10_fewest 33 = .ok (.ifCond .eq 5, 3) := by decide +kernel
theorem dX10_fewest_36 : decode cX10_fewest 36 = .ok (.iconst 0, 1) := by decide +kernel
theorem dX10_fewest_37 : decode cX10_fewest 37 = .ok (.ireturn, 1) := by decide +kernel
theorem dX10_fewest_38 : decode cX10_fewest 38 = .ok (.aload_n 0, 1) := by decide +kernel
theorem dX10_fewest_39 : decode cX10_fewest 39 = .ok (.iload_n 1, 1) := by decide +kernel
theorem dX10_fewest_40 : decode cX10_fewest 40 = .ok (.iload_n 2, 1) := by decide +kernel
theorem dX10_fewest_41 : decode cX10_fewest 41 = .ok (.invokevirtual 389, 3) := by decide +kernel
theorem dX10_fewest_44 : decode cX10_fewest 44 = .ok (.ifCond .eq 5, 3) := by decide +kernel
theorem dX10_fewest_47 : decode cX10_fewest 47 = .ok (.iconst 1, 1) := by decide +kernel
theorem dX10_fewest_48 : decode cX10_fewest 48 = .ok (.ireturn, 1) := by decide +kernel
theorem dX10_fewest_49 : decode cX10_fewest 49 = .ok (.iconst 0, 1) := by decide +kernel
theorem dX10_fewest_50 : decode cX10_fewest 50 = .ok (.istore_n 3, 1) := by decide +kernel
theorem dX10_fewest_51 : decode cX10_fewest 51 = .ok (.iconst 0, 1) := by decide +kernel
theorem dX10_fewest_52 : decode cX10_fewest 52 = .ok (.istore 4, 2) := by decide +kernel
theorem dX10_fewest_54 : decode cX10_fewest 54 = .ok (.iload 4, 2) := by decide +kernel
theorem dX10_fewest_56 : decode cX10_fewest 56 = .ok (.aload_n 0, 1) := by decide +kernel
theorem dX10_fewest_57 : decode cX10_fewest 57 = .ok (.invokevirtual 193, 3) := by decide +kernel
theorem dX10_fewest_60 : decode cX10_fewest 60 = .ok (.if_icmp .ge 61, 3) := by decide +kernel
theorem dX10_fewest_63 : decode cX10_fewest 63 = .ok (.iload_n 3, 1) := by decide +kernel
theorem dX10_fewest_64 : decode cX10_fewest 64 = .ok (.ifCond .ne 57, 3) := by decide +kernel
theorem dX10_fewest_67 : decode cX10_fewest 67 = .ok (.iload 4, 2) := by decide +kernel
theorem dX10_fewest_69 : decode cX10_fewest 69 = .ok (.iconst 1, 1) := by decide +kernel
theorem dX10_fewest_70 : decode cX10_fewest 70 = .ok (.iadd, 1) := by decide +kernel
theorem dX10_fewest_71 : decode cX10_fewest 71 = .ok (.istore 5, 2) := by decide +kernel
theorem dX10_fewest_73 : decode cX10_fewest 73 = .ok (.iload 5, 2) := by decide +kernel
theorem dX10_fewest_75 : decode cX10_fewest 75 = .ok (.aload_n 0, 1) := by decide +kernel
theorem dX10_fewest_76 : decode cX10_fewest 76 = .ok (.invokevirtual 193, 3) := by decide +kernel
theorem dX10_fewest_79 : decode cX10_fewest 79 = .ok (.if_icmp .ge 36, 3) := by decide +kernel
theorem dX10_fewest_82 : decode cX10_fewest 82 = .ok (.iload_n 3, 1) := by decide +kernel
theorem dX10_fewest_83 : decode cX10_fewest 83 = .ok (.ifCond .ne 32, 3) := by decide +kernel
theorem dX10_fewest_86 : decode cX10_fewest 86 = .ok (.aload_n 0, 1) := by decide +kernel
theorem dX10_fewest_87 : decode cX10_fewest 87 = .ok (.iload 4, 2) := by decide +kernel
theorem dX10_fewest_89 : decode cX10_fewest 89 = .ok (.iload 5, 2) := by decide +kernel
theorem dX10_fewest_91 : decode cX10_fewest 91 = .ok (.invokevirtual 189, 3) := by decide +kernel
theorem dX10_fewest_94 : decode cX10_fewest 94 = .ok (.aload_n 0, 1) := by decide +kernel
theorem dX10_fewest_95 : decode cX10_fewest 95 = .ok (.iload_n 1, 1) := by decide +kernel
theorem dX10_fewest_96 : decode cX10_fewest 96 = .ok (.iload_n 2, 1) := by decide +kernel
theorem dX10_fewest_97 : decode cX10_fewest 97 = .ok (.invokevirtual 389, 3) := by decide +kernel
theorem dX10_fewest_100 : decode cX10_fewest 100 = .ok (.istore_n 3, 1) := by decide +kernel
theorem dX10_fewest_101 : decode cX10_fewest 101 = .ok (.aload_n 0, 1) := by decide +kernel
theorem dX10_fewest_102 : decode cX10_fewest 102 = .ok (.iload 4, 2) := by decide +kernel
theorem dX10_fewest_104 : decode cX10_fewest 104 = .ok (.iload 5, 2) := by decide +kernel
theorem dX10_fewest_106 : decode cX10_fewest 106 = .ok (.invokevirtual 189, 3) := by decide +kernel
theorem dX10_fewest_109 : decode cX10_fewest 109 = .ok (.iinc 5 1, 3) := by decide +kernel
theorem dX10_fewest_112 : decode cX10_fewest 112 = .ok (.goto (-39), 3) := by decide +kernel
theorem dX10_fewest_115 : decode cX10_fewest 115 = .ok (.iinc 4 1, 3) := by decide +kernel
theorem dX10_fewest_118 : decode cX10_fewest 118 = .ok (.goto (-64), 3) := by decide +kernel
theorem dX10_fewest_121 : decode cX10_fewest 121 = .ok (.iload_n 3, 1) := by decide +kernel
theorem dX10_fewest_122 : decode cX10_fewest 122 = .ok (.ifCond .eq 7, 3) := by decide +kernel
theorem dX10_fewest_125 : decode cX10_fewest 125 = .ok (.iconst 2, 1) := by decide +kernel
theorem dX10_fewest_126 : decode cX10_fewest 126 = .ok (.goto 5, 3) := by decide +kernel
theorem dX10_fewest_129 : decode cX10_fewest 129 = .ok (.bipush (-2), 2) := by decide +kernel
theorem dX10_fewest_131 : decode cX10_fewest 131 = .ok (.ireturn, 1) := by decide +kernel
theorem dX10_areNames_0 : decode cX10_areNames 0 = .ok (.aload_n 0, 1) := by decide +kernel
theorem dX10_areNames_1 : decode cX10_areNames 1 = .ok (.invokevirtual 193, 3) := by decide +kernel
theorem dX10_areNames_4 : decode cX10_areNames 4 = .ok (.istore_n 3, 1) := by decide +kernel
theorem dX10_areNames_5 : decode cX10_areNames 5 = .ok (.iconst 0, 1) := by decide +kernel
theorem dX10_areNames_6 : decode cX10_areNames 6 = .ok (.istore 4, 2) := by decide +kernel
theorem dX10_areNames_8 : decode cX10_areNames 8 = .ok (.iload 4, 2) := by decide +kernel
theorem dX10_areNames_10 : decode cX10_areNames 10 = .ok (.iload_n 3, 1) := by decide +kernel
theorem dX10_areNames_11 : decode cX10_areNames 11 = .ok (.if_icmp .ge 64, 3) := by decide +kernel
theorem dX10_areNames_14 : decode cX10_areNames 14 = .ok (.iload 4, 2) := by decide +kernel
theorem dX10_areNames_16 : decode cX10_areNames 16 = .ok (.iconst 1, 1) := by decide +kernel
theorem dX10_areNames_17 : decode cX10_areNames 17 = .ok (.iadd, 1) := by decide +kernel
theorem dX10_areNames_18 : decode cX10_areNames 18 = .ok (.istore 5, 2) := by decide +kernel
theorem dX10_areNames_20 : decode cX10_areNames 20 = .ok (.iload 5, 2) := by decide +kernel
theorem dX10_areNames_22 : decode cX10_areNames 22 = .ok (.iload_n 3, 1) := by decide +kernel
theorem dX10_areNames_23 : decode cX10_areNames 23 = .ok (.if_icmp .ge 46, 3) := by decide +kernel
theorem dX10_areNames_26 : decode cX10_areNames 26 = .ok (.aload_n 0, 1) := by decide +kernel
theorem dX10_areNames_27 : decode cX10_areNames 27 = .ok (.iload 4, 2) := by decide +kernel
theorem dX10_areNames_29 : decode cX10_areNames 29 = .ok (.invokevirtual 166, 3) := by decide +kernel
theorem dX10_areNames_32 : decode cX10_areNames 32 = .ok (.iload 5, 2) := by decide +kernel
theorem dX10_areNames_34 : decode cX10_areNames 34 = .ok (.invokestatic 146, 3) := by decide +kernel
theorem dX10_areNames_37 : decode cX10_areNames 37 = .ok (.aload_n 1, 1) := by decide +kernel
theorem dX10_areNames_38 : decode cX10_areNames 38 = .ok (.iload_n 2, 1) := by decide +kernel
theorem dX10_areNames_39 : decode cX10_areNames 39 = .ok (.aload_n 0, 1) := by decide +kernel
theorem dX10_areNames_40 : decode cX10_areNames 40 = .ok (.getfield 71, 3) := by decide +kernel
theorem dX10_areNames_43 : decode cX10_areNames 43 = .ok (.iload 4, 2) := by decide +kernel
theorem dX10_areNames_45 : decode cX10_areNames 45 = .ok (.iaload, 1) := by decide +kernel
theorem dX10_areNames_46 : decode cX10_areNames 46 = .ok (.iadd, 1) := by decide +kernel
theorem dX10_areNames_47 : decode cX10_areNames 47 = .ok (.iaload, 1) := by decide +kernel
theorem dX10_areNames_48 : decode cX10_areNames 48 = .ok (.aload_n 0, 1) := by decide +kernel
theorem dX10_areNames_49 : decode cX10_areNames 49 = .ok (.getfield 71, 3) := by decide +kernel
theorem dX10_areNames_52 : decode cX10_areNames 52 = .ok (.iload 5, 2) := by decide +kernel
theorem dX10_areNames_54 : decode cX10_areNames 54 = .ok (.iaload, 1) := by decide +kernel
theorem dX10_areNames_55 : decode cX10_areNames 55 = .ok (.invokestatic 146, 3) := by decide +kernel
theorem dX10_areNames_58 : decode cX10_areNames 58 = .ok (.if_icmp .eq 5, 3) := by decide +kernel
theorem dX10_areNames_61 : decode cX10_areNames 61 = .ok (.iconst 0, 1) := by decide +kernel
theorem dX10_areNames_62 : decode cX10_areNames 62 = .ok (.ireturn, 1) := by decide +kernel
theorem dX10_areNames_63 : decode cX10_areNames 63 = .ok (.iinc 5 1, 3) := by decide +kernel
theorem dX10_areNames_66 : decode cX10_areNames 66 = .ok (.goto (-46), 3) := by decide +kernel
theorem dX10_areNames_69 : decode cX10_areNames 69 = .ok (.iinc 4 1, 3) := by decide +kernel
theorem dX10_areNames_72 : decode cX10_areNames 72 = .ok (.goto (-64), 3) := by decide +kernel
theorem dX10_areNames_75 : decode cX10_areNames 75 = .ok (.iconst 1, 1) := by decide +kernel
theorem dX10_areNames_76 : decode cX10_areNames 76 = .ok (.ireturn, 1) := by decide +kernel
theorem dX10_selves_0 : decode cX10_selves 0 = .ok (.aload_n 0, 1) := by decide +kernel
theorem dX10_selves_1 : decode cX10_selves 1 = .ok (.iconst 0, 1) := by decide +kernel
theorem dX10_selves_2 : decode cX10_selves 2 = .ok (.putfield 90, 3) := by decide +kernel
theorem dX10_selves_5 : decode cX10_selves 5 = .ok (.aload_n 0, 1) := by decide +kernel
theorem dX10_selves_6 : decode cX10_selves 6 = .ok (.invokevirtual 97, 3) := by decide +kernel
theorem dX10_selves_9 : decode cX10_selves 9 = .ok (.ifCond .ne 5, 3) := by decide +kernel
theorem dX10_selves_12 : decode cX10_selves 12 = .ok (.iconst (-1), 1) := by decide +kernel
theorem dX10_selves_13 : decode cX10_selves 13 = .ok (.ireturn, 1) := by decide +kernel
theorem dX10_selves_14 : decode cX10_selves 14 = .ok (.aload_n 0, 1) := by decide +kernel
theorem dX10_selves_15 : decode cX10_selves 15 = .ok (.invokevirtual 303, 3) := by decide +kernel
theorem dX10_selves_18 : decode cX10_selves 18 = .ok (.iconst 0, 1) := by decide +kernel
theorem dX10_selves_19 : decode cX10_selves 19 = .ok (.istore_n 1, 1) := by decide +kernel
theorem dX10_selves_20 : decode cX10_selves 20 = .ok (.iconst 1, 1) := by decide +kernel
theorem dX10_selves_21 : decode cX10_selves 21 = .ok (.istore_n 2, 1) := by decide +kernel
theorem dX10_selves_22 : decode cX10_selves 22 = .ok (.iload_n 2, 1) := by decide +kernel
theorem dX10_selves_23 : decode cX10_selves 23 = .ok (.ifCond .eq 31, 3) := by decide +kernel
theorem dX10_selves_26 : decode cX10_selves 26 = .ok (.iload_n 1, 1) := by decide +kernel
theorem dX10_selves_27 : decode cX10_selves 27 = .ok (.aload_n 0, 1) := by decide +kernel
theorem dX10_selves_28 : decode cX10_selves 28 = .ok (.aload_n 0, 1) := by decide +kernel
theorem dX10_selves_29 : decode cX10_selves 29 = .ok (.getfield 9, 3) := by decide +kernel
theorem dX10_selves_32 : decode cX10_selves 32 = .ok (.iconst 1, 1) := by decide +kernel
theorem dX10_selves_33 : decode cX10_selves 33 = .ok (.invokevirtual 392, 3) := by decide +kernel
theorem dX10_selves_36 : decode cX10_selves 36 = .ok (.ifCond .eq 7, 3) := by decide +kernel
theorem dX10_selves_39 : decode cX10_selves 39 = .ok (.iconst 1, 1) := by decide +kernel
theorem dX10_selves_40 : decode cX10_selves 40 = .ok (.goto 4, 3) := by decide +kernel
theorem dX10_selves_43 : decode cX10_selves 43 = .ok (.iconst 0, 1) := by decide +kernel
theorem dX10_selves_44 : decode cX10_selves 44 = .ok (.iadd, 1) := by decide +kernel
theorem dX10_selves_45 : decode cX10_selves 45 = .ok (.istore_n 1, 1) := by decide +kernel
theorem dX10_selves_46 : decode cX10_selves 46 = .ok (.aload_n 0, 1) := by decide +kernel
theorem dX10_selves_47 : decode cX10_selves 47 = .ok (.invokevirtual 309, 3) := by decide +kernel
theorem dX10_selves_50 : decode cX10_selves 50 = .ok (.istore_n 2, 1) := by decide +kernel
theorem dX10_selves_51 : decode cX10_selves 51 = .ok (.goto (-29), 3) := by decide +kernel
theorem dX10_selves_54 : decode cX10_selves 54 = .ok (.iload_n 1, 1) := by decide +kernel
theorem dX10_selves_55 : decode cX10_selves 55 = .ok (.ireturn, 1) := by decide +kernel
theorem dX10_undo_0 : decode cX10_undo 0 = .ok (.aload_n 0, 1) := by decide +kernel
theorem dX10_undo_1 : decode cX10_undo 1 = .ok (.iconst 0, 1) := by decide +kernel
theorem dX10_undo_2 : decode cX10_undo 2 = .ok (.putfield 90, 3) := by decide +kernel
theorem dX10_undo_5 : decode cX10_undo 5 = .ok (.aload_n 0, 1) := by decide +kernel
theorem dX10_undo_6 : decode cX10_undo 6 = .ok (.invokevirtual 97, 3) := by decide +kernel
theorem dX10_undo_9 : decode cX10_undo 9 = .ok (.ifCond .ne 6, 3) := by decide +kernel
theorem dX10_undo_12 : decode cX10_undo 12 = .ok (.bipush (-2), 2) := by decide +kernel
theorem dX10_undo_14 : decode cX10_undo 14 = .ok (.ireturn, 1) := by decide +kernel
theorem dX10_undo_15 : decode cX10_undo 15 = .ok (.aload_n 0, 1) := by decide +kernel
theorem dX10_undo_16 : decode cX10_undo 16 = .ok (.getfield 109, 3) := by decide +kernel
theorem dX10_undo_19 : decode cX10_undo 19 = .ok (.ifCond .ne 6, 3) := by decide +kernel
theorem dX10_undo_22 : decode cX10_undo 22 = .ok (.bipush (-3), 2) := by decide +kernel
theorem dX10_undo_24 : decode cX10_undo 24 = .ok (.ireturn, 1) := by decide +kernel
theorem dX10_undo_25 : decode cX10_undo 25 = .ok (.aload_n 0, 1) := by decide +kernel
theorem dX10_undo_26 : decode cX10_undo 26 = .ok (.dup, 1) := by decide +kernel
theorem dX10_undo_27 : decode cX10_undo 27 = .ok (.getfield 109, 3) := by decide +kernel
theorem dX10_undo_30 : decode cX10_undo 30 = .ok (.iconst 1, 1) := by decide +kernel
theorem dX10_undo_31 : decode cX10_undo 31 = .ok (.isub, 1) := by decide +kernel
theorem dX10_undo_32 : decode cX10_undo 32 = .ok (.putfield 109, 3) := by decide +kernel
theorem dX10_undo_35 : decode cX10_undo 35 = .ok (.iconst 0, 1) := by decide +kernel
theorem dX10_undo_36 : decode cX10_undo 36 = .ok (.istore_n 1, 1) := by decide +kernel
theorem dX10_undo_37 : decode cX10_undo 37 = .ok (.iload_n 1, 1) := by decide +kernel
theorem dX10_undo_38 : decode cX10_undo 38 = .ok (.bipush 9, 2) := by decide +kernel
theorem dX10_undo_40 : decode cX10_undo 40 = .ok (.if_icmp .ge 29, 3) := by decide +kernel
theorem dX10_undo_43 : decode cX10_undo 43 = .ok (.aload_n 0, 1) := by decide +kernel
theorem dX10_undo_44 : decode cX10_undo 44 = .ok (.getfield 9, 3) := by decide +kernel
theorem dX10_undo_47 : decode cX10_undo 47 = .ok (.iload_n 1, 1) := by decide +kernel
theorem dX10_undo_48 : decode cX10_undo 48 = .ok (.aload_n 0, 1) := by decide +kernel
theorem dX10_undo_49 : decode cX10_undo 49 = .ok (.getfield 15, 3) := by decide +kernel
theorem dX10_undo_52 : decode cX10_undo 52 = .ok (.bipush 9, 2) := by decide +kernel
theorem dX10_undo_54 : decode cX10_undo 54 = .ok (.aload_n 0, 1) := by decide +kernel
theorem dX10_undo_55 : decode cX10_undo 55 = .ok (.getfield 109, 3) := by decide +kernel
theorem dX10_undo_58 : decode cX10_undo 58 = .ok (.imul, 1) := by decide +kernel
theorem dX10_undo_59 : decode cX10_undo 59 = .ok (.iload_n 1, 1) := by decide +kernel
theorem dX10_undo_60 : decode cX10_undo 60 = .ok (.iadd, 1) := by decide +kernel
theorem dX10_undo_61 : decode cX10_undo 61 = .ok (.iaload, 1) := by decide +kernel
theorem dX10_undo_62 : decode cX10_undo 62 = .ok (.iastore, 1) := by decide +kernel
theorem dX10_undo_63 : decode cX10_undo 63 = .ok (.iinc 1 1, 3) := by decide +kernel
theorem dX10_undo_66 : decode cX10_undo 66 = .ok (.goto (-29), 3) := by decide +kernel
theorem dX10_undo_69 : decode cX10_undo 69 = .ok (.aload_n 0, 1) := by decide +kernel
theorem dX10_undo_70 : decode cX10_undo 70 = .ok (.getfield 109, 3) := by decide +kernel
theorem dX10_undo_73 : decode cX10_undo 73 = .ok (.ireturn, 1) := by decide +kernel
theorem dX10_keep_0 : decode cX10_keep 0 = .ok (.aload_n 0, 1) := by decide +kernel
theorem dX10_keep_1 : decode cX10_keep 1 = .ok (.iconst 0, 1) := by decide +kernel
theorem dX10_keep_2 : decode cX10_keep 2 = .ok (.putfield 90, 3) := by decide +kernel
theorem dX10_keep_5 : decode cX10_keep 5 = .ok (.iload_n 1, 1) := by decide +kernel
theorem dX10_keep_6 : decode cX10_keep 6 = .ok (.i2l, 1) := by decide +kernel
theorem dX10_keep_7 : decode cX10_keep 7 = .ok (.lconst 0, 1) := by decide +kernel
theorem dX10_keep_8 : decode cX10_keep 8 = .ok (.lconst 1, 1) := by decide +kernel
theorem dX10_keep_9 : decode cX10_keep 9 = .ok (.invokestatic 93, 3) := by decide +kernel
theorem dX10_keep_12 : decode cX10_keep 12 = .ok (.ifCond .eq 10, 3) := by decide +kernel
theorem dX10_keep_15 : decode cX10_keep 15 = .ok (.aload_n 0, 1) := by decide +kernel
theorem dX10_keep_16 : decode cX10_keep 16 = .ok (.invokevirtual 97, 3) := by decide +kernel
theorem dX10_keep_19 : decode cX10_keep 19 = .ok (.ifCond .ne 5, 3) := by decide +kernel
theorem dX10_keep_22 : decode cX10_keep 22 = .ok (.iconst 0, 1) := by decide +kernel
theorem dX10_keep_23 : decode cX10_keep 23 = .ok (.ireturn, 1) := by decide +kernel
theorem dX10_keep_24 : decode cX10_keep 24 = .ok (.iconst 0, 1) := by decide +kernel
theorem dX10_keep_25 : decode cX10_keep 25 = .ok (.istore_n 2, 1) := by decide +kernel
theorem dX10_keep_26 : decode cX10_keep 26 = .ok (.iload_n 2, 1) := by decide +kernel
theorem dX10_keep_27 : decode cX10_keep 27 = .ok (.bipush 9, 2) := by decide +kernel
theorem dX10_keep_29 : decode cX10_keep 29 = .ok (.if_icmp .ge 26, 3) := by decide +kernel
theorem dX10_keep_32 : decode cX10_keep 32 = .ok (.aload_n 0, 1) := by decide +kernel
theorem dX10_keep_33 : decode cX10_keep 33 = .ok (.getfield 18, 3) := by decide +kernel
theorem dX10_keep_36 : decode cX10_keep 36 = .ok (.bipush 9, 2) := by decide +kernel
theorem dX10_keep_38 : decode cX10_keep 38 = .ok (.iload_n 1, 1) := by decide +kernel
theorem dX10_keep_39 : decode cX10_keep 39 = .ok (.imul, 1) := by decide +kernel
theorem dX10_keep_40 : decode cX10_keep 40 = .ok (.iload_n 2, 1) := by decide +kernel
theorem dX10_keep_41 : decode cX10_keep 41 = .ok (.iadd, 1) := by decide +kernel
theorem dX10_keep_42 : decode cX10_keep 42 = .ok (.aload_n 0, 1) := by decide +kernel
theorem dX10_keep_43 : decode cX10_keep 43 = .ok (.getfield 9, 3) := by decide +kernel
theorem dX10_keep_46 : decode cX10_keep 46 = .ok (.iload_n 2, 1) := by decide +kernel
theorem dX10_keep_47 : decode cX10_keep 47 = .ok (.iaload, 1) := by decide +kernel
theorem dX10_keep_48 : decode cX10_keep 48 = .ok (.iastore, 1) := by decide +kernel
theorem dX10_keep_49 : decode cX10_keep 49 = .ok (.iinc 2 1, 3) := by decide +kernel
theorem dX10_keep_52 : decode cX10_keep 52 = .ok (.goto (-26), 3) := by decide +kernel
theorem dX10_keep_55 : decode cX10_keep 55 = .ok (.aload_n 0, 1) := by decide +kernel
theorem dX10_keep_56 : decode cX10_keep 56 = .ok (.getfield 21, 3) := by decide +kernel
theorem dX10_keep_59 : decode cX10_keep 59 = .ok (.iload_n 1, 1) := by decide +kernel
theorem dX10_keep_60 : decode cX10_keep 60 = .ok (.iconst 1, 1) := by decide +kernel
theorem dX10_keep_61 : decode cX10_keep 61 = .ok (.bastore, 1) := by decide +kernel
theorem dX10_keep_62 : decode cX10_keep 62 = .ok (.iconst 1, 1) := by decide +kernel
theorem dX10_keep_63 : decode cX10_keep 63 = .ok (.ireturn, 1) := by decide +kernel
theorem dX10_again_0 : decode cX10_again 0 = .ok (.aload_n 0, 1) := by decide +kernel
theorem dX10_again_1 : decode cX10_again 1 = .ok (.iconst 0, 1) := by decide +kernel
theorem dX10_again_2 : decode cX10_again 2 = .ok (.putfield 90, 3) := by decide +kernel
theorem dX10_again_5 : decode cX10_again 5 = .ok (.iload_n 1, 1) := by decide +kernel
theorem dX10_again_6 : decode cX10_again 6 = .ok (.i2l, 1) := by decide +kernel
theorem dX10_again_7 : decode cX10_again 7 = .ok (.lconst 0, 1) := by decide +kernel
theorem dX10_again_8 : decode cX10_again 8 = .ok (.lconst 1, 1) := by decide +kernel
theorem dX10_again_9 : decode cX10_again 9 = .ok (.invokestatic 93, 3) := by decide +kernel
theorem dX10_again_12 : decode cX10_again 12 = .ok (.ifCond .eq 12, 3) := by decide +kernel
theorem dX10_again_15 : decode cX10_again 15 = .ok (.aload_n 0, 1) := by decide +kernel
theorem dX10_again_16 : decode cX10_again 16 = .ok (.getfield 21, 3) := by decide +kernel
theorem dX10_again_19 : decode cX10_again 19 = .ok (.iload_n 1, 1) := by decide +kernel
theorem dX10_again_20 : decode cX10_again 20 = .ok (.baload, 1) := by decide +kernel
theorem dX10_again_21 : decode cX10_again 21 = .ok (.ifCond .ne 5, 3) := by decide +kernel
theorem dX10_again_24 : decode cX10_again 24 = .ok (.iconst 0, 1) := by decide +kernel
theorem dX10_again_25 : decode cX10_again 25 = .ok (.ireturn, 1) := by decide +kernel
theorem dX10_again_26 : decode cX10_again 26 = .ok (.aload_n 0, 1) := by decide +kernel
theorem dX10_again_27 : decode cX10_again 27 = .ok (.invokevirtual 186, 3) := by decide +kernel
theorem dX10_again_30 : decode cX10_again 30 = .ok (.iconst 0, 1) := by decide +kernel
theorem dX10_again_31 : decode cX10_again 31 = .ok (.istore_n 2, 1) := by decide +kernel
theorem dX10_again_32 : decode cX10_again 32 = .ok (.iload_n 2, 1) := by decide +kernel
theorem dX10_again_33 : decode cX10_again 33 = .ok (.bipush 9, 2) := by decide +kernel
theorem dX10_again_35 : decode cX10_again 35 = .ok (.if_icmp .ge 26, 3) := by decide +kernel
theorem dX10_again_38 : decode cX10_again 38 = .ok (.aload_n 0, 1) := by decide +kernel
theorem dX10_again_39 : decode cX10_again 39 = .ok (.getfield 9, 3) := by decide +kernel
theorem dX10_again_42 : decode cX10_again 42 = .ok (.iload_n 2, 1) := by decide +kernel
theorem dX10_again_43 : decode cX10_again 43 = .ok (.aload_n 0, 1) := by decide +kernel
theorem dX10_again_44 : decode cX10_again 44 = .ok (.getfield 18, 3) := by decide +kernel
theorem dX10_again_47 : decode cX10_again 47 = .ok (.bipush 9, 2) := by decide +kernel
theorem dX10_again_49 : decode cX10_again 49 = .ok (.iload_n 1, 1) := by decide +kernel
theorem dX10_again_50 : decode cX10_again 50 = .ok (.imul, 1) := by decide +kernel
theorem dX10_again_51 : decode cX10_again 51 = .ok (.iload_n 2, 1) := by decide +kernel
theorem dX10_again_52 : decode cX10_again 52 = .ok (.iadd, 1) := by decide +kernel
theorem dX10_again_53 : decode cX10_again 53 = .ok (.iaload, 1) := by decide +kernel
theorem dX10_again_54 : decode cX10_again 54 = .ok (.iastore, 1) := by decide +kernel
theorem dX10_again_55 : decode cX10_again 55 = .ok (.iinc 2 1, 3) := by decide +kernel
theorem dX10_again_58 : decode cX10_again 58 = .ok (.goto (-26), 3) := by decide +kernel
theorem dX10_again_61 : decode cX10_again 61 = .ok (.iconst 1, 1) := by decide +kernel
theorem dX10_again_62 : decode cX10_again 62 = .ok (.ireturn, 1) := by decide +kernel
theorem dX10_isAlike_0 : decode cX10_isAlike 0 = .ok (.aload_n 0, 1) := by decide +kernel
theorem dX10_isAlike_1 : decode cX10_isAlike 1 = .ok (.invokevirtual 303, 3) := by decide +kernel
theorem dX10_isAlike_4 : decode cX10_isAlike 4 = .ok (.aload_n 0, 1) := by decide +kernel
theorem dX10_isAlike_5 : decode cX10_isAlike 5 = .ok (.getfield 18, 3) := by decide +kernel
theorem dX10_isAlike_8 : decode cX10_isAlike 8 = .ok (.bipush 9, 2) := by decide +kernel
theorem dX10_isAlike_10 : decode cX10_isAlike 10 = .ok (.iload_n 1, 1) := by decide +kernel
theorem dX10_isAlike_11 : decode cX10_isAlike 11 = .ok (.imul, 1) := by decide +kernel
theorem dX10_isAlike_12 : decode cX10_isAlike 12 = .ok (.iaload, 1) := by decide +kernel
theorem dX10_isAlike_13 : decode cX10_isAlike 13 = .ok (.aload_n 0, 1) := by decide +kernel
theorem dX10_isAlike_14 : decode cX10_isAlike 14 = .ok (.invokevirtual 193, 3) := by decide +kernel
theorem dX10_isAlike_17 : decode cX10_isAlike 17 = .ok (.if_icmp .ne 7, 3) := by decide +kernel
theorem dX10_isAlike_20 : decode cX10_isAlike 20 = .ok (.iconst 1, 1) := by decide +kernel
theorem dX10_isAlike_21 : decode cX10_isAlike 21 = .ok (.goto 4, 3) := by decide +kernel
theorem dX10_isAlike_24 : decode cX10_isAlike 24 = .ok (.iconst 0, 1) := by decide +kernel
theorem dX10_isAlike_25 : decode cX10_isAlike 25 = .ok (.istore_n 2, 1) := by decide +kernel
theorem dX10_isAlike_26 : decode cX10_isAlike 26 = .ok (.iload_n 2, 1) := by decide +kernel
theorem dX10_isAlike_27 : decode cX10_isAlike 27 = .ok (.ifCond .eq 28, 3) := by decide +kernel
theorem dX10_isAlike_30 : decode cX10_isAlike 30 = .ok (.aload_n 0, 1) := by decide +kernel
theorem dX10_isAlike_31 : decode cX10_isAlike 31 = .ok (.aload_n 0, 1) := by decide +kernel
theorem dX10_isAlike_32 : decode cX10_isAlike 32 = .ok (.getfield 18, 3) := by decide +kernel
theorem dX10_isAlike_35 : decode cX10_isAlike 35 = .ok (.bipush 9, 2) := by decide +kernel
theorem dX10_isAlike_37 : decode cX10_isAlike 37 = .ok (.iload_n 1, 1) := by decide +kernel
theorem dX10_isAlike_38 : decode cX10_isAlike 38 = .ok (.imul, 1) := by decide +kernel
theorem dX10_isAlike_39 : decode cX10_isAlike 39 = .ok (.iconst 1, 1) := by decide +kernel
theorem dX10_isAlike_40 : decode cX10_isAlike 40 = .ok (.iadd, 1) := by decide +kernel
theorem dX10_isAlike_41 : decode cX10_isAlike 41 = .ok (.invokevirtual 392, 3) := by decide +kernel
theorem dX10_isAlike_44 : decode cX10_isAlike 44 = .ok (.ifCond .ne 11, 3) := by decide +kernel
theorem dX10_isAlike_47 : decode cX10_isAlike 47 = .ok (.aload_n 0, 1) := by decide +kernel
theorem dX10_isAlike_48 : decode cX10_isAlike 48 = .ok (.invokevirtual 309, 3) := by decide +kernel
theorem dX10_isAlike_51 : decode cX10_isAlike 51 = .ok (.istore_n 2, 1) := by decide +kernel
theorem dX10_isAlike_52 : decode cX10_isAlike 52 = .ok (.goto (-26), 3) := by decide +kernel
theorem dX10_isAlike_55 : decode cX10_isAlike 55 = .ok (.iload_n 2, 1) := by decide +kernel
theorem dX10_isAlike_56 : decode cX10_isAlike 56 = .ok (.ireturn, 1) := by decide +kernel
theorem dX10_alike_0 : decode cX10_alike 0 = .ok (.aload_n 0, 1) := by decide +kernel
theorem dX10_alike_1 : decode cX10_alike 1 = .ok (.iconst 0, 1) := by decide +kernel
theorem dX10_alike_2 : decode cX10_alike 2 = .ok (.putfield 90, 3) := by decide +kernel
theorem dX10_alike_5 : decode cX10_alike 5 = .ok (.iload_n 1, 1) := by decide +kernel
theorem dX10_alike_6 : decode cX10_alike 6 = .ok (.i2l, 1) := by decide +kernel
theorem dX10_alike_7 : decode cX10_alike 7 = .ok (.lconst 0, 1) := by decide +kernel
theorem dX10_alike_8 : decode cX10_alike 8 = .ok (.lconst 1, 1) := by decide +kernel
theorem dX10_alike_9 : decode cX10_alike 9 = .ok (.invokestatic 93, 3) := by decide +kernel
theorem dX10_alike_12 : decode cX10_alike 12 = .ok (.ifCond .eq 22, 3) := by decide +kernel
theorem dX10_alike_15 : decode cX10_alike 15 = .ok (.aload_n 0, 1) := by decide +kernel
theorem dX10_alike_16 : decode cX10_alike 16 = .ok (.getfield 21, 3) := by decide +kernel
theorem dX10_alike_19 : decode cX10_alike 19 = .ok (.iload_n 1, 1) := by decide +kernel
theorem dX10_alike_20 : decode cX10_alike 20 = .ok (.baload, 1) := by decide +kernel
theorem dX10_alike_21 : decode cX10_alike 21 = .ok (.ifCond .eq 13, 3) := by decide +kernel
theorem dX10_alike_24 : decode cX10_alike 24 = .ok (.iload_n 2, 1) := by decide +kernel
theorem dX10_alike_25 : decode cX10_alike 25 = .ok (.i2l, 1) := by decide +kernel
theorem dX10_alike_26 : decode cX10_alike 26 = .ok (.lconst 0, 1) := by decide +kernel
theorem dX10_alike_27 : decode cX10_alike 27 = .ok (.lconst 1, 1) := by decide +kernel
theorem dX10_alike_28 : decode cX10_alike 28 = .ok (.invokestatic 93, 3) := by decide +kernel
theorem dX10_alike_31 : decode cX10_alike 31 = .ok (.ifCond .ne 5, 3) := by decide +kernel
theorem dX10_alike_34 : decode cX10_alike 34 = .ok (.iconst (-1), 1) := by decide +kernel
theorem dX10_alike_35 : decode cX10_alike 35 = .ok (.ireturn, 1) := by decide +kernel
theorem dX10_alike_36 : decode cX10_alike 36 = .ok (.iload_n 2, 1) := by decide +kernel
theorem dX10_alike_37 : decode cX10_alike 37 = .ok (.ifCond .ne 17, 3) := by decide +kernel
theorem dX10_alike_40 : decode cX10_alike 40 = .ok (.aload_n 0, 1) := by decide +kernel
theorem dX10_alike_41 : decode cX10_alike 41 = .ok (.iload_n 1, 1) := by decide +kernel
theorem dX10_alike_42 : decode cX10_alike 42 = .ok (.invokevirtual 396, 3) := by decide +kernel
theorem dX10_alike_45 : decode cX10_alike 45 = .ok (.ifCond .eq 7, 3) := by decide +kernel
theorem dX10_alike_48 : decode cX10_alike 48 = .ok (.iconst 1, 1) := by decide +kernel
theorem dX10_alike_49 : decode cX10_alike 49 = .ok (.goto 4, 3) := by decide +kernel
theorem dX10_alike_52 : decode cX10_alike 52 = .ok (.iconst 0, 1) := by decide +kernel
theorem dX10_alike_53 : decode cX10_alike 53 = .ok (.ireturn, 1) := by decide +kernel
theorem dX10_alike_54 : decode cX10_alike 54 = .ok (.iconst 0, 1) := by decide +kernel
theorem dX10_alike_55 : decode cX10_alike 55 = .ok (.istore_n 3, 1) := by decide +kernel
theorem dX10_alike_56 : decode cX10_alike 56 = .ok (.aload_n 0, 1) := by decide +kernel
theorem dX10_alike_57 : decode cX10_alike 57 = .ok (.getfield 18, 3) := by decide +kernel
theorem dX10_alike_60 : decode cX10_alike 60 = .ok (.bipush 9, 2) := by decide +kernel
theorem dX10_alike_62 : decode cX10_alike 62 = .ok (.iload_n 1, 1) := by decide +kernel
theorem dX10_alike_63 : decode cX10_alike 63 = .ok (.imul, 1) := by decide +kernel
theorem dX10_alike_64 : decode cX10_alike 64 = .ok (.iaload, 1) := by decide +kernel
theorem dX10_alike_65 : decode cX10_alike 65 = .ok (.aload_n 0, 1) := by decide +kernel
theorem dX10_alike_66 : decode cX10_alike 66 = .ok (.invokevirtual 193, 3) := by decide +kernel
theorem dX10_alike_69 : decode cX10_alike 69 = .ok (.if_icmp .ge 15, 3) := by decide +kernel
theorem dX10_alike_72 : decode cX10_alike 72 = .ok (.aload_n 0, 1) := by decide +kernel
theorem dX10_alike_73 : decode cX10_alike 73 = .ok (.getfield 18, 3) := by decide +kernel
theorem dX10_alike_76 : decode cX10_alike 76 = .ok (.bipush 9, 2) := by decide +kernel
theorem dX10_alike_78 : decode cX10_alike 78 = .ok (.iload_n 1, 1) := by decide +kernel
theorem dX10_alike_79 : decode cX10_alike 79 = .ok (.imul, 1) := by decide +kernel
theorem dX10_alike_80 : decode cX10_alike 80 = .ok (.iaload, 1) := by decide +kernel
theorem dX10_alike_81 : decode cX10_alike 81 = .ok (.goto 7, 3) := by decide +kernel
theorem dX10_alike_84 : decode cX10_alike 84 = .ok (.aload_n 0, 1) := by decide +kernel
theorem dX10_alike_85 : decode cX10_alike 85 = .ok (.invokevirtual 193, 3) := by decide +kernel
theorem dX10_alike_88 : decode cX10_alike 88 = .ok (.istore 4, 2) := by decide +kernel
theorem dX10_alike_90 : decode cX10_alike 90 = .ok (.iconst 0, 1) := by decide +kernel
theorem dX10_alike_91 : decode cX10_alike 91 = .ok (.istore 5, 2) := by decide +kernel
theorem dX10_alike_93 : decode cX10_alike 93 = .ok (.iload 5, 2) := by decide +kernel
theorem dX10_alike_95 : decode cX10_alike 95 = .ok (.iload 4, 2) := by decide +kernel
theorem dX10_alike_97 : decode cX10_alike 97 = .ok (.if_icmp .ge 69, 3) := by decide +kernel
theorem dX10_alike_100 : decode cX10_alike 100 = .ok (.iload 5, 2) := by decide +kernel
theorem dX10_alike_102 : decode cX10_alike 102 = .ok (.iconst 1, 1) := by decide +kernel
theorem dX10_alike_103 : decode cX10_alike 103 = .ok (.iadd, 1) := by decide +kernel
theorem dX10_alike_104 : decode cX10_alike 104 = .ok (.istore 6, 2) := by decide +kernel
theorem dX10_alike_106 : decode cX10_alike 106 = .ok (.iload 6, 2) := by decide +kernel
theorem dX10_alike_108 : decode cX10_alike 108 = .ok (.iload 4, 2) := by decide +kernel
theorem dX10_alike_110 : decode cX10_alike 110 = .ok (.if_icmp .ge 50, 3) := by decide +kernel
theorem dX10_alike_113 : decode cX10_alike 113 = .ok (.iload_n 3, 1) := by decide +kernel
theorem dX10_alike_114 : decode cX10_alike 114 = .ok (.aload_n 0, 1) := by decide +kernel
theorem dX10_alike_115 : decode cX10_alike 115 = .ok (.iload 5, 2) := by decide +kernel
theorem dX10_alike_117 : decode cX10_alike 117 = .ok (.invokevirtual 166, 3) := by decide +kernel
theorem dX10_alike_120 : decode cX10_alike 120 = .ok (.iload 6, 2) := by decide +kernel
theorem dX10_alike_122 : decode cX10_alike 122 = .ok (.invokestatic 146, 3) := by decide +kernel
theorem dX10_alike_125 : decode cX10_alike 125 = .ok (.aload_n 0, 1) := by decide +kernel
theorem dX10_alike_126 : decode cX10_alike 126 = .ok (.getfield 18, 3) := by decide +kernel
theorem dX10_alike_129 : decode cX10_alike 129 = .ok (.bipush 9, 2) := by decide +kernel
theorem dX10_alike_131 : decode cX10_alike 131 = .ok (.iload_n 1, 1) := by decide +kernel
theorem dX10_alike_132 : decode cX10_alike 132 = .ok (.imul, 1) := by decide +kernel
theorem dX10_alike_133 : decode cX10_alike 133 = .ok (.iconst 1, 1) := by decide +kernel
theorem dX10_alike_134 : decode cX10_alike 134 = .ok (.iadd, 1) := by decide +kernel
theorem dX10_alike_135 : decode cX10_alike 135 = .ok (.iload 5, 2) := by decide +kernel
theorem dX10_alike_137 : decode cX10_alike 137 = .ok (.iadd, 1) := by decide +kernel
theorem dX10_alike_138 : decode cX10_alike 138 = .ok (.iaload, 1) := by decide +kernel
theorem dX10_alike_139 : decode cX10_alike 139 = .ok (.iload 6, 2) := by decide +kernel
theorem dX10_alike_141 : decode cX10_alike 141 = .ok (.invokestatic 146, 3) := by decide +kernel
theorem dX10_alike_144 : decode cX10_alike 144 = .ok (.if_icmp .eq 7, 3) := by decide +kernel
theorem dX10_alike_147 : decode cX10_alike 147 = .ok (.iconst 1, 1) := by decide +kernel
theorem dX10_alike_148 : decode cX10_alike 148 = .ok (.goto 4, 3) := by decide +kernel
theorem dX10_alike_151 : decode cX10_alike 151 = .ok (.iconst 0, 1) := by decide +kernel
theorem dX10_alike_152 : decode cX10_alike 152 = .ok (.iadd, 1) := by decide +kernel
theorem dX10_alike_153 : decode cX10_alike 153 = .ok (.istore_n 3, 1) := by decide +kernel
theorem dX10_alike_154 : decode cX10_alike 154 = .ok (.iinc 6 1, 3) := by decide +kernel
theorem dX10_alike_157 : decode cX10_alike 157 = .ok (.goto (-51), 3) := by decide +kernel
theorem dX10_alike_160 : decode cX10_alike 160 = .ok (.iinc 5 1, 3) := by decide +kernel
theorem dX10_alike_163 : decode cX10_alike 163 = .ok (.goto (-70), 3) := by decide +kernel
theorem dX10_alike_166 : decode cX10_alike 166 = .ok (.iload_n 3, 1) := by decide +kernel
theorem dX10_alike_167 : decode cX10_alike 167 = .ok (.ireturn, 1) := by decide +kernel
theorem dX10_cycles_0 : decode cX10_cycles 0 = .ok (.iconst 0, 1) := by decide +kernel
theorem dX10_cycles_1 : decode cX10_cycles 1 = .ok (.istore_n 1, 1) := by decide +kernel
theorem dX10_cycles_2 : decode cX10_cycles 2 = .ok (.iconst 0, 1) := by decide +kernel
theorem dX10_cycles_3 : decode cX10_cycles 3 = .ok (.istore_n 2, 1) := by decide +kernel
theorem dX10_cycles_4 : decode cX10_cycles 4 = .ok (.iload_n 2, 1) := by decide +kernel
theorem dX10_cycles_5 : decode cX10_cycles 5 = .ok (.aload_n 0, 1) := by decide +kernel
theorem dX10_cycles_6 : decode cX10_cycles 6 = .ok (.invokevirtual 193, 3) := by decide +kernel
theorem dX10_cycles_9 : decode cX10_cycles 9 = .ok (.if_icmp .ge 58, 3) := by decide +kernel
theorem dX10_cycles_12 : decode cX10_cycles 12 = .ok (.iconst 0, 1) := by decide +kernel
theorem dX10_cycles_13 : decode cX10_cycles 13 = .ok (.istore_n 3, 1) := by decide +kernel
theorem dX10_cycles_14 : decode cX10_cycles 14 = .ok (.iload_n 3, 1) := by decide +kernel
theorem dX10_cycles_15 : decode cX10_cycles 15 = .ok (.aload_n 0, 1) := by decide +kernel
theorem dX10_cycles_16 : decode cX10_cycles 16 = .ok (.invokevirtual 193, 3) := by decide +kernel
theorem dX10_cycles_19 : decode cX10_cycles 19 = .ok (.if_icmp .ge 42, 3) := by decide +kernel
theorem dX10_cycles_22 : decode cX10_cycles 22 = .ok (.iload_n 1, 1) := by decide +kernel
theorem dX10_cycles_23 : decode cX10_cycles 23 = .ok (.aload_n 0, 1) := by decide +kernel
theorem dX10_cycles_24 : decode cX10_cycles 24 = .ok (.iload_n 2, 1) := by decide +kernel
theorem dX10_cycles_25 : decode cX10_cycles 25 = .ok (.invokevirtual 166, 3) := by decide +kernel
theorem dX10_cycles_28 : decode cX10_cycles 28 = .ok (.iload_n 3, 1) := by decide +kernel
theorem dX10_cycles_29 : decode cX10_cycles 29 = .ok (.invokestatic 146, 3) := by decide +kernel
theorem dX10_cycles_32 : decode cX10_cycles 32 = .ok (.ifCond .eq 20, 3) := by decide +kernel
theorem dX10_cycles_35 : decode cX10_cycles 35 = .ok (.aload_n 0, 1) := by decide +kernel
theorem dX10_cycles_36 : decode cX10_cycles 36 = .ok (.iload_n 3, 1) := by decide +kernel
theorem dX10_cycles_37 : decode cX10_cycles 37 = .ok (.invokevirtual 166, 3) := by decide +kernel
theorem dX10_cycles_40 : decode cX10_cycles 40 = .ok (.aload_n 0, 1) := by decide +kernel
theorem dX10_cycles_41 : decode cX10_cycles 41 = .ok (.iload_n 2, 1) := by decide +kernel
theorem dX10_cycles_42 : decode cX10_cycles 42 = .ok (.invokevirtual 177, 3) := by decide +kernel
theorem dX10_cycles_45 : decode cX10_cycles 45 = .ok (.iand, 1) := by decide +kernel
theorem dX10_cycles_46 : decode cX10_cycles 46 = .ok (.invokestatic 200, 3) := by decide +kernel
theorem dX10_cycles_49 : decode cX10_cycles 49 = .ok (.goto 4, 3) := by decide +kernel
theorem dX10_cycles_52 : decode cX10_cycles 52 = .ok (.iconst 0, 1) := by decide +kernel
theorem dX10_cycles_53 : decode cX10_cycles 53 = .ok (.iadd, 1) := by decide +kernel
theorem dX10_cycles_54 : decode cX10_cycles 54 = .ok (.istore_n 1, 1) := by decide +kernel
theorem dX10_cycles_55 : decode cX10_cycles 55 = .ok (.iinc 3 1, 3) := by decide +kernel
theorem dX10_cycles_58 : decode cX10_cycles 58 = .ok (.goto (-44), 3) := by decide +kernel
theorem dX10_cycles_61 : decode cX10_cycles 61 = .ok (.iinc 2 1, 3) := by decide +kernel
theorem dX10_cycles_64 : decode cX10_cycles 64 = .ok (.goto (-60), 3) := by decide +kernel
theorem dX10_cycles_67 : decode cX10_cycles 67 = .ok (.iload_n 1, 1) := by decide +kernel
theorem dX10_cycles_68 : decode cX10_cycles 68 = .ok (.iconst 3, 1) := by decide +kernel
theorem dX10_cycles_69 : decode cX10_cycles 69 = .ok (.idiv, 1) := by decide +kernel
theorem dX10_cycles_70 : decode cX10_cycles 70 = .ok (.ireturn, 1) := by decide +kernel
theorem dX10_count_0 : decode cX10_count 0 = .ok (.aload_n 0, 1) := by decide +kernel
theorem dX10_count_1 : decode cX10_count 1 = .ok (.iconst 0, 1) := by decide +kernel
theorem dX10_count_2 : decode cX10_count 2 = .ok (.putfield 90, 3) := by decide +kernel
theorem dX10_count_5 : decode cX10_count 5 = .ok (.iload_n 1, 1) := by decide +kernel
theorem dX10_count_6 : decode cX10_count 6 = .ok (.tableswitch 110 0 5 #[38, 43, 57, 62, 67, 72], 38) := by decide +kernel
theorem dX10_count_44 : decode cX10_count 44 = .ok (.aload_n 0, 1) := by decide +kernel
theorem dX10_count_45 : decode cX10_count 45 = .ok (.invokevirtual 193, 3) := by decide +kernel
theorem dX10_count_48 : decode cX10_count 48 = .ok (.ireturn, 1) := by decide +kernel
theorem dX10_count_49 : decode cX10_count 49 = .ok (.aload_n 0, 1) := by decide +kernel
theorem dX10_count_50 : decode cX10_count 50 = .ok (.invokevirtual 193, 3) := by decide +kernel
theorem dX10_count_53 : decode cX10_count 53 = .ok (.aload_n 0, 1) := by decide +kernel
theorem dX10_count_54 : decode cX10_count 54 = .ok (.invokevirtual 193, 3) := by decide +kernel
theorem dX10_count_57 : decode cX10_count 57 = .ok (.iconst 1, 1) := by decide +kernel
theorem dX10_count_58 : decode cX10_count 58 = .ok (.isub, 1) := by decide +kernel
theorem dX10_count_59 : decode cX10_count 59 = .ok (.imul, 1) := by decide +kernel
theorem dX10_count_60 : decode cX10_count 60 = .ok (.iconst 2, 1) := by decide +kernel
theorem dX10_count_61 : decode cX10_count 61 = .ok (.idiv, 1) := by decide +kernel
theorem dX10_count_62 : decode cX10_count 62 = .ok (.ireturn, 1) := by decide +kernel
theorem dX10_count_63 : decode cX10_count 63 = .ok (.aload_n 0, 1) := by decide +kernel
theorem dX10_count_64 : decode cX10_count 64 = .ok (.invokevirtual 399, 3) := by decide +kernel
theorem dX10_count_67 : decode cX10_count 67 = .ok (.ireturn, 1) := by decide +kernel
theorem dX10_count_68 : decode cX10_count 68 = .ok (.aload_n 0, 1) := by decide +kernel
theorem dX10_count_69 : decode cX10_count 69 = .ok (.getfield 112, 3) := by decide +kernel
theorem dX10_count_72 : decode cX10_count 72 = .ok (.ireturn, 1) := by decide +kernel
theorem dX10_count_73 : decode cX10_count 73 = .ok (.aload_n 0, 1) := by decide +kernel
theorem dX10_count_74 : decode cX10_count 74 = .ok (.getfield 109, 3) := by decide +kernel
theorem dX10_count_77 : decode cX10_count 77 = .ok (.ireturn, 1) := by decide +kernel
theorem dX10_count_78 : decode cX10_count 78 = .ok (.iconst 0, 1) := by decide +kernel
theorem dX10_count_79 : decode cX10_count 79 = .ok (.istore_n 2, 1) := by decide +kernel
theorem dX10_count_80 : decode cX10_count 80 = .ok (.iconst 0, 1) := by decide +kernel
theorem dX10_count_81 : decode cX10_count 81 = .ok (.istore_n 3, 1) := by decide +kernel
theorem dX10_count_82 : decode cX10_count 82 = .ok (.iload_n 3, 1) := by decide +kernel
theorem dX10_count_83 : decode cX10_count 83 = .ok (.aload_n 0, 1) := by decide +kernel
theorem dX10_count_84 : decode cX10_count 84 = .ok (.invokevirtual 193, 3) := by decide +kernel
theorem dX10_count_87 : decode cX10_count 87 = .ok (.if_icmp .ge 27, 3) := by decide +kernel
theorem dX10_count_90 : decode cX10_count 90 = .ok (.iload_n 2, 1) := by decide +kernel
theorem dX10_count_91 : decode cX10_count 91 = .ok (.aload_n 0, 1) := by decide +kernel
theorem dX10_count_92 : decode cX10_count 92 = .ok (.iload_n 3, 1) := by decide +kernel
theorem dX10_count_93 : decode cX10_count 93 = .ok (.invokevirtual 177, 3) := by decide +kernel
theorem dX10_count_96 : decode cX10_count 96 = .ok (.ifCond .ne 9, 3) := by decide +kernel
theorem dX10_count_99 : decode cX10_count 99 = .ok (.iconst 1, 1) := by decide +kernel
theorem dX10_count_100 : decode cX10_count 100 = .ok (.iload_n 3, 1) := by decide +kernel
theorem dX10_count_101 : decode cX10_count 101 = .ok (.ishl, 1) := by decide +kernel
theorem dX10_count_102 : decode cX10_count 102 = .ok (.goto 4, 3) := by decide +kernel
theorem dX10_count_105 : decode cX10_count 105 = .ok (.iconst 0, 1) := by decide +kernel
theorem dX10_count_106 : decode cX10_count 106 = .ok (.ior, 1) := by decide +kernel
theorem dX10_count_107 : decode cX10_count 107 = .ok (.istore_n 2, 1) := by decide +kernel
theorem dX10_count_108 : decode cX10_count 108 = .ok (.iinc 3 1, 3) := by decide +kernel
theorem dX10_count_111 : decode cX10_count 111 = .ok (.goto (-29), 3) := by decide +kernel
theorem dX10_count_114 : decode cX10_count 114 = .ok (.iload_n 2, 1) := by decide +kernel
theorem dX10_count_115 : decode cX10_count 115 = .ok (.ireturn, 1) := by decide +kernel
theorem dX10_count_116 : decode cX10_count 116 = .ok (.iconst (-1), 1) := by decide +kernel
theorem dX10_count_117 : decode cX10_count 117 = .ok (.ireturn, 1) := by decide +kernel
theorem dJ6_bitCount_0f7a4_0 : decode cJ6_bitCount_0f7a4 0 = .ok (.iload_n 0, 1) := by decide +kernel
theorem dJ6_bitCount_0f7a4_1 : decode cJ6_bitCount_0f7a4 1 = .ok (.iload_n 0, 1) := by decide +kernel
theorem dJ6_bitCount_0f7a4_2 : decode cJ6_bitCount_0f7a4 2 = .ok (.iconst 1, 1) := by decide +kernel
theorem dJ6_bitCount_0f7a4_3 : decode cJ6_bitCount_0f7a4 3 = .ok (.iushr, 1) := by decide +kernel
theorem dJ6_bitCount_0f7a4_4 : decode cJ6_bitCount_0f7a4 4 = .ok (.ldc_w 265, 3) := by decide +kernel
theorem dJ6_bitCount_0f7a4_7 : decode cJ6_bitCount_0f7a4 7 = .ok (.iand, 1) := by decide +kernel
theorem dJ6_bitCount_0f7a4_8 : decode cJ6_bitCount_0f7a4 8 = .ok (.isub, 1) := by decide +kernel
theorem dJ6_bitCount_0f7a4_9 : decode cJ6_bitCount_0f7a4 9 = .ok (.istore_n 0, 1) := by decide +kernel
theorem dJ6_bitCount_0f7a4_10 : decode cJ6_bitCount_0f7a4 10 = .ok (.iload_n 0, 1) := by decide +kernel
theorem dJ6_bitCount_0f7a4_11 : decode cJ6_bitCount_0f7a4 11 = .ok (.ldc_w 266, 3) := by decide +kernel
theorem dJ6_bitCount_0f7a4_14 : decode cJ6_bitCount_0f7a4 14 = .ok (.iand, 1) := by decide +kernel
theorem dJ6_bitCount_0f7a4_15 : decode cJ6_bitCount_0f7a4 15 = .ok (.iload_n 0, 1) := by decide +kernel
theorem dJ6_bitCount_0f7a4_16 : decode cJ6_bitCount_0f7a4 16 = .ok (.iconst 2, 1) := by decide +kernel
theorem dJ6_bitCount_0f7a4_17 : decode cJ6_bitCount_0f7a4 17 = .ok (.iushr, 1) := by decide +kernel
theorem dJ6_bitCount_0f7a4_18 : decode cJ6_bitCount_0f7a4 18 = .ok (.ldc_w 266, 3) := by decide +kernel
theorem dJ6_bitCount_0f7a4_21 : decode cJ6_bitCount_0f7a4 21 = .ok (.iand, 1) := by decide +kernel
theorem dJ6_bitCount_0f7a4_22 : decode cJ6_bitCount_0f7a4 22 = .ok (.iadd, 1) := by decide +kernel
theorem dJ6_bitCount_0f7a4_23 : decode cJ6_bitCount_0f7a4 23 = .ok (.istore_n 0, 1) := by decide +kernel
theorem dJ6_bitCount_0f7a4_24 : decode cJ6_bitCount_0f7a4 24 = .ok (.iload_n 0, 1) := by decide +kernel
theorem dJ6_bitCount_0f7a4_25 : decode cJ6_bitCount_0f7a4 25 = .ok (.iload_n 0, 1) := by decide +kernel
theorem dJ6_bitCount_0f7a4_26 : decode cJ6_bitCount_0f7a4 26 = .ok (.iconst 4, 1) := by decide +kernel
theorem dJ6_bitCount_0f7a4_27 : decode cJ6_bitCount_0f7a4 27 = .ok (.iushr, 1) := by decide +kernel
theorem dJ6_bitCount_0f7a4_28 : decode cJ6_bitCount_0f7a4 28 = .ok (.iadd, 1) := by decide +kernel
theorem dJ6_bitCount_0f7a4_29 : decode cJ6_bitCount_0f7a4 29 = .ok (.ldc_w 267, 3) := by decide +kernel
theorem dJ6_bitCount_0f7a4_32 : decode cJ6_bitCount_0f7a4 32 = .ok (.iand, 1) := by decide +kernel
theorem dJ6_bitCount_0f7a4_33 : decode cJ6_bitCount_0f7a4 33 = .ok (.istore_n 0, 1) := by decide +kernel
theorem dJ6_bitCount_0f7a4_34 : decode cJ6_bitCount_0f7a4 34 = .ok (.iload_n 0, 1) := by decide +kernel
theorem dJ6_bitCount_0f7a4_35 : decode cJ6_bitCount_0f7a4 35 = .ok (.iload_n 0, 1) := by decide +kernel
theorem dJ6_bitCount_0f7a4_36 : decode cJ6_bitCount_0f7a4 36 = .ok (.bipush 8, 2) := by decide +kernel
theorem dJ6_bitCount_0f7a4_38 : decode cJ6_bitCount_0f7a4 38 = .ok (.iushr, 1) := by decide +kernel
theorem dJ6_bitCount_0f7a4_39 : decode cJ6_bitCount_0f7a4 39 = .ok (.iadd, 1) := by decide +kernel
theorem dJ6_bitCount_0f7a4_40 : decode cJ6_bitCount_0f7a4 40 = .ok (.istore_n 0, 1) := by decide +kernel
theorem dJ6_bitCount_0f7a4_41 : decode cJ6_bitCount_0f7a4 41 = .ok (.iload_n 0, 1) := by decide +kernel
theorem dJ6_bitCount_0f7a4_42 : decode cJ6_bitCount_0f7a4 42 = .ok (.iload_n 0, 1) := by decide +kernel
theorem dJ6_bitCount_0f7a4_43 : decode cJ6_bitCount_0f7a4 43 = .ok (.bipush 16, 2) := by decide +kernel
theorem dJ6_bitCount_0f7a4_45 : decode cJ6_bitCount_0f7a4 45 = .ok (.iushr, 1) := by decide +kernel
theorem dJ6_bitCount_0f7a4_46 : decode cJ6_bitCount_0f7a4 46 = .ok (.iadd, 1) := by decide +kernel
theorem dJ6_bitCount_0f7a4_47 : decode cJ6_bitCount_0f7a4 47 = .ok (.istore_n 0, 1) := by decide +kernel
theorem dJ6_bitCount_0f7a4_48 : decode cJ6_bitCount_0f7a4 48 = .ok (.iload_n 0, 1) := by decide +kernel
theorem dJ6_bitCount_0f7a4_49 : decode cJ6_bitCount_0f7a4 49 = .ok (.bipush 63, 2) := by decide +kernel
theorem dJ6_bitCount_0f7a4_51 : decode cJ6_bitCount_0f7a4 51 = .ok (.iand, 1) := by decide +kernel
theorem dJ6_bitCount_0f7a4_52 : decode cJ6_bitCount_0f7a4 52 = .ok (.ireturn, 1) := by decide +kernel
theorem dJ9_max_7cf53_0 : decode cJ9_max_7cf53 0 = .ok (.iload_n 0, 1) := by decide +kernel
theorem dJ9_max_7cf53_1 : decode cJ9_max_7cf53 1 = .ok (.iload_n 1, 1) := by decide +kernel
theorem dJ9_max_7cf53_2 : decode cJ9_max_7cf53 2 = .ok (.if_icmp .lt 7, 3) := by decide +kernel
theorem dJ9_max_7cf53_5 : decode cJ9_max_7cf53 5 = .ok (.iload_n 0, 1) := by decide +kernel
theorem dJ9_max_7cf53_6 : decode cJ9_max_7cf53 6 = .ok (.goto 4, 3) := by decide +kernel
theorem dJ9_max_7cf53_9 : decode cJ9_max_7cf53 9 = .ok (.iload_n 1, 1) := by decide +kernel
theorem dJ9_max_7cf53_10 : decode cJ9_max_7cf53 10 = .ok (.ireturn, 1) := by decide +kernel
theorem dJ9_min_7cf53_0 : decode cJ9_min_7cf53 0 = .ok (.iload_n 0, 1) := by decide +kernel
theorem dJ9_min_7cf53_1 : decode cJ9_min_7cf53 1 = .ok (.iload_n 1, 1) := by decide +kernel
theorem dJ9_min_7cf53_2 : decode cJ9_min_7cf53 2 = .ok (.if_icmp .gt 7, 3) := by decide +kernel
theorem dJ9_min_7cf53_5 : decode cJ9_min_7cf53 5 = .ok (.iload_n 0, 1) := by decide +kernel
theorem dJ9_min_7cf53_6 : decode cJ9_min_7cf53 6 = .ok (.goto 4, 3) := by decide +kernel
theorem dJ9_min_7cf53_9 : decode cJ9_min_7cf53 9 = .ok (.iload_n 1, 1) := by decide +kernel
theorem dJ9_min_7cf53_10 : decode cJ9_min_7cf53 10 = .ok (.ireturn, 1) := by decide +kernel
theorem dL_duel_0 : decode cL_duel 0 = .ok (.aload 4, 2) := by decide +kernel
theorem dL_duel_2 : decode cL_duel 2 = .ok (.iconst 0, 1) := by decide +kernel
theorem dL_duel_3 : decode cL_duel 3 = .ok (.aload_n 0, 1) := by decide +kernel
theorem dL_duel_4 : decode cL_duel 4 = .ok (.iload_n 1, 1) := by decide +kernel
theorem dL_duel_5 : decode cL_duel 5 = .ok (.iload_n 2, 1) := by decide +kernel
theorem dL_duel_6 : decode cL_duel 6 = .ok (.iload_n 3, 1) := by decide +kernel
theorem dL_duel_7 : decode cL_duel 7 = .ok (.invokevirtual 7, 3) := by decide +kernel
theorem dL_duel_10 : decode cL_duel 10 = .ok (.i2l, 1) := by decide +kernel
theorem dL_duel_11 : decode cL_duel 11 = .ok (.lastore, 1) := by decide +kernel
theorem dL_duel_12 : decode cL_duel 12 = .ok (.goto 7, 3) := by decide +kernel
theorem dL_duel_15 : decode cL_duel 15 = .ok (.astore 5, 2) := by decide +kernel
theorem dL_duel_17 : decode cL_duel 17 = .ok (.iconst 1, 1) := by decide +kernel
theorem dL_duel_18 : decode cL_duel 18 = .ok (.ireturn, 1) := by decide +kernel
theorem dL_duel_19 : decode cL_duel 19 = .ok (.iconst 0, 1) := by decide +kernel
theorem dL_duel_20 : decode cL_duel 20 = .ok (.ireturn, 1) := by decide +kernel
theorem dL_law_0 : decode cL_law 0 = .ok (.new 8, 3) := by decide +kernel
theorem dL_law_3 : decode cL_law 3 = .ok (.dup, 1) := by decide +kernel
theorem dL_law_4 : decode cL_law 4 = .ok (.invokespecial 15, 3) := by decide +kernel
theorem dL_law_7 : decode cL_law 7 = .ok (.astore_n 1, 1) := by decide +kernel
theorem dL_law_8 : decode cL_law 8 = .ok (.new 16, 3) := by decide +kernel
theorem dL_law_11 : decode cL_law 11 = .ok (.dup, 1) := by decide +kernel
theorem dL_law_12 : decode cL_law 12 = .ok (.invokespecial 18, 3) := by decide +kernel
theorem dL_law_15 : decode cL_law 15 = .ok (.astore_n 2, 1) := by decide +kernel
theorem dL_law_16 : decode cL_law 16 = .ok (.iconst 1, 1) := by decide +kernel
theorem dL_law_17 : decode cL_law 17 = .ok (.newarray .long, 2) := by decide +kernel
theorem dL_law_19 : decode cL_law 19 = .ok (.astore_n 3, 1) := by decide +kernel
theorem dL_law_20 : decode cL_law 20 = .ok (.iconst 0, 1) := by decide +kernel
theorem dL_law_21 : decode cL_law 21 = .ok (.istore 4, 2) := by decide +kernel
theorem dL_law_23 : decode cL_law 23 = .ok (.iload 4, 2) := by decide +kernel
theorem dL_law_25 : decode cL_law 25 = .ok (.aload_n 0, 1) := by decide +kernel
theorem dL_law_26 : decode cL_law 26 = .ok (.arraylength, 1) := by decide +kernel
theorem dL_law_27 : decode cL_law 27 = .ok (.iconst 4, 1) := by decide +kernel
theorem dL_law_28 : decode cL_law 28 = .ok (.isub, 1) := by decide +kernel
theorem dL_law_29 : decode cL_law 29 = .ok (.if_icmp .gt 1005, 3) := by decide +kernel
theorem dL_law_32 : decode cL_law 32 = .ok (.aload_n 0, 1) := by decide +kernel
theorem dL_law_33 : decode cL_law 33 = .ok (.iload 4, 2) := by decide +kernel
theorem dL_law_35 : decode cL_law 35 = .ok (.iaload, 1) := by decide +kernel
theorem dL_law_36 : decode cL_law 36 = .ok (.bipush 31, 2) := by decide +kernel
theorem dL_law_38 : decode cL_law 38 = .ok (.iand, 1) := by decide +kernel
theorem dL_law_39 : decode cL_law 39 = .ok (.tableswitch 989 0 28 #[129, 154, 179, 192, 229, 281, 318, 355, 380, 405, 442, 479, 504, 553, 578, 603, 640, 677, 714, 751, 776, 789, 814, 851, 864, 877, 902, 927, 964], 129) := by decide +kernel
theorem dL_law_168 : decode cL_law 168 = .ok (.aload_n 1, 1) := by decide +kernel
theorem dL_law_169 : decode cL_law 169 = .ok (.aload_n 0, 1) := by decide +kernel
theorem dL_law_170 : decode cL_law 170 = .ok (.iload 4, 2) := by decide +kernel
theorem dL_law_172 : decode cL_law 172 = .ok (.iconst 1, 1) := by decide +kernel
theorem dL_law_173 : decode cL_law 173 = .ok (.iadd, 1) := by decide +kernel
theorem dL_law_174 : decode cL_law 174 = .ok (.iaload, 1) := by decide +kernel
theorem dL_law_175 : decode cL_law 175 = .ok (.invokevirtual 19, 3) := by decide +kernel
theorem dL_law_178 : decode cL_law 178 = .ok (.pop, 1) := by decide +kernel
theorem dL_law_179 : decode cL_law 179 = .ok (.aload_n 2, 1) := by decide +kernel
theorem dL_law_180 : decode cL_law 180 = .ok (.aload_n 0, 1) := by decide +kernel
theorem dL_law_181 : decode cL_law 181 = .ok (.iload 4, 2) := by decide +kernel
theorem dL_law_183 : decode cL_law 183 = .ok (.iconst 1, 1) := by decide +kernel
theorem dL_law_184 : decode cL_law 184 = .ok (.iadd, 1) := by decide +kernel
theorem dL_law_185 : decode cL_law 185 = .ok (.iaload, 1) := by decide +kernel
theorem dL_law_186 : decode cL_law 186 = .ok (.invokevirtual 23, 3) := by decide +kernel
theorem dL_law_189 : decode cL_law 189 = .ok (.pop, 1) := by decide +kernel
theorem dL_law_190 : decode cL_law 190 = .ok (.goto 838, 3) := by decide +kernel
theorem dL_law_193 : decode cL_law 193 = .ok (.aload_n 1, 1) := by decide +kernel
theorem dL_law_194 : decode cL_law 194 = .ok (.aload_n 0, 1) := by decide +kernel
theorem dL_law_195 : decode cL_law 195 = .ok (.iload 4, 2) := by decide +kernel
theorem dL_law_197 : decode cL_law 197 = .ok (.iconst 1, 1) := by decide +kernel
theorem dL_law_198 : decode cL_law 198 = .ok (.iadd, 1) := by decide +kernel
theorem dL_law_199 : decode cL_law 199 = .ok (.iaload, 1) := by decide +kernel
theorem dL_law_200 : decode cL_law 200 = .ok (.invokevirtual 24, 3) := by decide +kernel
theorem dL_law_203 : decode cL_law 203 = .ok (.pop, 1) := by decide +kernel
theorem dL_law_204 : decode cL_law 204 = .ok (.aload_n 2, 1) := by decide +kernel
theorem dL_law_205 : decode cL_law 205 = .ok (.aload_n 0, 1) := by decide +kernel
theorem dL_law_206 : decode cL_law 206 = .ok (.iload 4, 2) := by decide +kernel
theorem dL_law_208 : decode cL_law 208 = .ok (.iconst 1, 1) := by decide +kernel
theorem dL_law_209 : decode cL_law 209 = .ok (.iadd, 1) := by decide +kernel
theorem dL_law_210 : decode cL_law 210 = .ok (.iaload, 1) := by decide +kernel
theorem dL_law_211 : decode cL_law 211 = .ok (.invokevirtual 28, 3) := by decide +kernel
theorem dL_law_214 : decode cL_law 214 = .ok (.pop, 1) := by decide +kernel
theorem dL_law_215 : decode cL_law 215 = .ok (.goto 813, 3) := by decide +kernel
theorem dL_law_218 : decode cL_law 218 = .ok (.aload_n 1, 1) := by decide +kernel
theorem dL_law_219 : decode cL_law 219 = .ok (.invokevirtual 29, 3) := by decide +kernel
theorem dL_law_222 : decode cL_law 222 = .ok (.pop, 1) := by decide +kernel
theorem dL_law_223 : decode cL_law 223 = .ok (.aload_n 2, 1) := by decide +kernel
theorem dL_law_224 : decode cL_law 224 = .ok (.invokevirtual 33, 3) := by decide +kernel
theorem dL_law_227 : decode cL_law 227 = .ok (.pop, 1) := by decide +kernel
theorem dL_law_228 : decode cL_law 228 = .ok (.goto 800, 3) := by decide +kernel
theorem dL_law_231 : decode cL_law 231 = .ok (.aload_n 1, 1) := by decide +kernel
theorem dL_law_232 : decode cL_law 232 = .ok (.aload_n 0, 1) := by decide +kernel
theorem dL_law_233 : decode cL_law 233 = .ok (.iload 4, 2) := by decide +kernel
theorem dL_law_235 : decode cL_law 235 = .ok (.iconst 1, 1) := by decide +kernel
theorem dL_law_236 : decode cL_law 236 = .ok (.iadd, 1) := by decide +kernel
theorem dL_law_237 : decode cL_law 237 = .ok (.iaload, 1) := by decide +kernel
theorem dL_law_238 : decode cL_law 238 = .ok (.aload_n 0, 1) := by decide +kernel
theorem dL_law_239 : decode cL_law 239 = .ok (.iload 4, 2) := by decide +kernel
theorem dL_law_241 : decode cL_law 241 = .ok (.iconst 2, 1) := by decide +kernel
theorem dL_law_242 : decode cL_law 242 = .ok (.iadd, 1) := by decide +kernel
theorem dL_law_243 : decode cL_law 243 = .ok (.iaload, 1) := by decide +kernel
theorem dL_law_244 : decode cL_law 244 = .ok (.invokevirtual 34, 3) := by decide +kernel
theorem dL_law_247 : decode cL_law 247 = .ok (.pop, 1) := by decide +kernel
theorem dL_law_248 : decode cL_law 248 = .ok (.aload_n 2, 1) := by decide +kernel
theorem dL_law_249 : decode cL_law 249 = .ok (.aload_n 0, 1) := by decide +kernel
theorem dL_law_250 : decode cL_law 250 = .ok (.iload 4, 2) := by decide +kernel
theorem dL_law_252 : decode cL_law 252 = .ok (.iconst 1, 1) := by decide +kernel
theorem dL_law_253 : decode cL_law 253 = .ok (.iadd, 1) := by decide +kernel
theorem dL_law_254 : decode cL_law 254 = .ok (.iaload, 1) := by decide +kernel
theorem dL_law_255 : decode cL_law 255 = .ok (.aload_n 0, 1) := by decide +kernel
theorem dL_law_256 : decode cL_law 256 = .ok (.iload 4, 2) := by decide +kernel
theorem dL_law_258 : decode cL_law 258 = .ok (.iconst 2, 1) := by decide +kernel
theorem dL_law_259 : decode cL_law 259 = .ok (.iadd, 1) := by decide +kernel
theorem dL_law_260 : decode cL_law 260 = .ok (.iaload, 1) := by decide +kernel
theorem dL_law_261 : decode cL_law 261 = .ok (.invokevirtual 38, 3) := by decide +kernel
theorem dL_law_264 : decode cL_law 264 = .ok (.pop, 1) := by decide +kernel
theorem dL_law_265 : decode cL_law 265 = .ok (.goto 763, 3) := by decide +kernel
theorem dL_law_268 : decode cL_law 268 = .ok (.aload_n 1, 1) := by decide +kernel
theorem dL_law_269 : decode cL_law 269 = .ok (.aload_n 0, 1) := by decide +kernel
theorem dL_law_270 : decode cL_law 270 = .ok (.iload 4, 2) := by decide +kernel
theorem dL_law_272 : decode cL_law 272 = .ok (.iconst 1, 1) := by decide +kernel
theorem dL_law_273 : decode cL_law 273 = .ok (.iadd, 1) := by decide +kernel
theorem dL_law_274 : decode cL_law 274 = .ok (.iaload, 1) := by decide +kernel
theorem dL_law_275 : decode cL_law 275 = .ok (.aload_n 0, 1) := by decide +kernel
theorem dL_law_276 : decode cL_law 276 = .ok (.iload 4, 2) := by decide +kernel
theorem dL_law_278 : decode cL_law 278 = .ok (.iconst 2, 1) := by decide +kernel
theorem dL_law_279 : decode cL_law 279 = .ok (.iadd, 1) := by decide +kernel
theorem dL_law_280 : decode cL_law 280 = .ok (.iaload, 1) := by decide +kernel
theorem dL_law_281 : decode cL_law 281 = .ok (.aload_n 0, 1) := by decide +kernel
theorem dL_law_282 : decode cL_law 282 = .ok (.iload 4, 2) := by decide +kernel
theorem dL_law_284 : decode cL_law 284 = .ok (.iconst 3, 1) := by decide +kernel
theorem dL_law_285 : decode cL_law 285 = .ok (.iadd, 1) := by decide +kernel
theorem dL_law_286 : decode cL_law 286 = .ok (.iaload, 1) := by decide +kernel
theorem dL_law_287 : decode cL_law 287 = .ok (.aload_n 3, 1) := by decide +kernel
theorem dL_law_288 : decode cL_law 288 = .ok (.invokestatic 39, 3) := by decide +kernel
theorem dL_law_291 : decode cL_law 291 = .ok (.istore 5, 2) := by decide +kernel
theorem dL_law_293 : decode cL_law 293 = .ok (.aload_n 2, 1) := by decide +kernel
theorem dL_law_294 : decode cL_law 294 = .ok (.aload_n 0, 1) := by decide +kernel
theorem dL_law_295 : decode cL_law 295 = .ok (.iload 4, 2) := by decide +kernel
theorem dL_law_297 : decode cL_law 297 = .ok (.iconst 1, 1) := by decide +kernel
theorem dL_law_298 : decode cL_law 298 = .ok (.iadd, 1) := by decide +kernel
theorem dL_law_299 : decode cL_law 299 = .ok (.iaload, 1) := by decide +kernel
theorem dL_law_300 : decode cL_law 300 = .ok (.aload_n 0, 1) := by decide +kernel
theorem dL_law_301 : decode cL_law 301 = .ok (.iload 4, 2) := by decide +kernel
theorem dL_law_303 : decode cL_law 303 = .ok (.iconst 2, 1) := by decide +kernel
theorem dL_law_304 : decode cL_law 304 = .ok (.iadd, 1) := by decide +kernel
theorem dL_law_305 : decode cL_law 305 = .ok (.iaload, 1) := by decide +kernel
theorem dL_law_306 : decode cL_law 306 = .ok (.aload_n 0, 1) := by decide +kernel
theorem dL_law_307 : decode cL_law 307 = .ok (.iload 4, 2) := by decide +kernel
theorem dL_law_309 : decode cL_law 309 = .ok (.iconst 3, 1) := by decide +kernel
theorem dL_law_310 : decode cL_law 310 = .ok (.iadd, 1) := by decide +kernel
theorem dL_law_311 : decode cL_law 311 = .ok (.iaload, 1) := by decide +kernel
theorem dL_law_312 : decode cL_law 312 = .ok (.invokevirtual 44, 3) := by decide +kernel
theorem dL_law_315 : decode cL_law 315 = .ok (.istore 6, 2) := by decide +kernel
theorem dL_law_317 : decode cL_law 317 = .ok (.goto 711, 3) := by decide +kernel
theorem dL_law_320 : decode cL_law 320 = .ok (.aload_n 1, 1) := by decide +kernel
theorem dL_law_321 : decode cL_law 321 = .ok (.aload_n 0, 1) := by decide +kernel
theorem dL_law_322 : decode cL_law 322 = .ok (.iload 4, 2) := by decide +kernel
theorem dL_law_324 : decode cL_law 324 = .ok (.iconst 1, 1) := by decide +kernel
theorem dL_law_325 : decode cL_law 325 = .ok (.iadd, 1) := by decide +kernel
theorem dL_law_326 : decode cL_law 326 = .ok (.iaload, 1) := by decide +kernel
theorem dL_law_327 : decode cL_law 327 = .ok (.aload_n 0, 1) := by decide +kernel
theorem dL_law_328 : decode cL_law 328 = .ok (.iload 4, 2) := by decide +kernel
theorem dL_law_330 : decode cL_law 330 = .ok (.iconst 2, 1) := by decide +kernel
theorem dL_law_331 : decode cL_law 331 = .ok (.iadd, 1) := by decide +kernel
theorem dL_law_332 : decode cL_law 332 = .ok (.iaload, 1) := by decide +kernel
theorem dL_law_333 : decode cL_law 333 = .ok (.invokevirtual 45, 3) := by decide +kernel
theorem dL_law_336 : decode cL_law 336 = .ok (.pop, 1) := by decide +kernel
theorem dL_law_337 : decode cL_law 337 = .ok (.aload_n 2, 1) := by decide +kernel
theorem dL_law_338 : decode cL_law 338 = .ok (.aload_n 0, 1) := by decide +kernel
theorem dL_law_339 : decode cL_law 339 = .ok (.iload 4, 2) := by decide +kernel
theorem dL_law_341 : decode cL_law 341 = .ok (.iconst 1, 1) := by decide +kernel
theorem dL_law_342 : decode cL_law 342 = .ok (.iadd, 1) := by decide +kernel
theorem dL_law_343 : decode cL_law 343 = .ok (.iaload, 1) := by decide +kernel
theorem dL_law_344 : decode cL_law 344 = .ok (.aload_n 0, 1) := by decide +kernel
theorem dL_law_345 : decode cL_law 345 = .ok (.iload 4, 2) := by decide +kernel
theorem dL_law_347 : decode cL_law 347 = .ok (.iconst 2, 1) := by decide +kernel
theorem dL_law_348 : decode cL_law 348 = .ok (.iadd, 1) := by decide +kernel
theorem dL_law_349 : decode cL_law 349 = .ok (.iaload, 1) := by decide +kernel
theorem dL_law_350 : decode cL_law 350 = .ok (.invokevirtual 48, 3) := by decide +kernel
theorem dL_law_353 : decode cL_law 353 = .ok (.pop, 1) := by decide +kernel
theorem dL_law_354 : decode cL_law 354 = .ok (.goto 674, 3) := by decide +kernel
theorem dL_law_357 : decode cL_law 357 = .ok (.aload_n 1, 1) := by decide +kernel
theorem dL_law_358 : decode cL_law 358 = .ok (.aload_n 0, 1) := by decide +kernel
theorem dL_law_359 : decode cL_law 359 = .ok (.iload 4, 2) := by decide +kernel
theorem dL_law_361 : decode cL_law 361 = .ok (.iconst 1, 1) := by decide +kernel
theorem dL_law_362 : decode cL_law 362 = .ok (.iadd, 1) := by decide +kernel
theorem dL_law_363 : decode cL_law 363 = .ok (.iaload, 1) := by decide +kernel
theorem dL_law_364 : decode cL_law 364 = .ok (.aload_n 0, 1) := by decide +kernel
theorem dL_law_365 : decode cL_law 365 = .ok (.iload 4, 2) := by decide +kernel
theorem dL_law_367 : decode cL_law 367 = .ok (.iconst 2, 1) := by decide +kernel
theorem dL_law_368 : decode cL_law 368 = .ok (.iadd, 1) := by decide +kernel
theorem dL_law_369 : decode cL_law 369 = .ok (.iaload, 1) := by decide +kernel
theorem dL_law_370 : decode cL_law 370 = .ok (.invokevirtual 49, 3) := by decide +kernel
theorem dL_law_373 : decode cL_law 373 = .ok (.pop, 1) := by decide +kernel
theorem dL_law_374 : decode cL_law 374 = .ok (.aload_n 2, 1) := by decide +kernel
theorem dL_law_375 : decode cL_law 375 = .ok (.aload_n 0, 1) := by decide +kernel
theorem dL_law_376 : decode cL_law 376 = .ok (.iload 4, 2) := by decide +kernel
theorem dL_law_378 : decode cL_law 378 = .ok (.iconst 1, 1) := by decide +kernel
theorem dL_law_379 : decode cL_law 379 = .ok (.iadd, 1) := by decide +kernel
theorem dL_law_380 : decode cL_law 380 = .ok (.iaload, 1) := by decide +kernel
theorem dL_law_381 : decode cL_law 381 = .ok (.aload_n 0, 1) := by decide +kernel
theorem dL_law_382 : decode cL_law 382 = .ok (.iload 4, 2) := by decide +kernel
theorem dL_law_384 : decode cL_law 384 = .ok (.iconst 2, 1) := by decide +kernel
theorem dL_law_385 : decode cL_law 385 = .ok (.iadd, 1) := by decide +kernel
theorem dL_law_386 : decode cL_law 386 = .ok (.iaload, 1) := by decide +kernel
theorem dL_law_387 : decode cL_law 387 = .ok (.invokevirtual 52, 3) := by decide +kernel
theorem dL_law_390 : decode cL_law 390 = .ok (.pop, 1) := by decide +kernel
theorem dL_law_391 : decode cL_law 391 = .ok (.goto 637, 3) := by decide +kernel
theorem dL_law_394 : decode cL_law 394 = .ok (.aload_n 1, 1) := by decide +kernel
theorem dL_law_395 : decode cL_law 395 = .ok (.aload_n 0, 1) := by decide +kernel
theorem dL_law_396 : decode cL_law 396 = .ok (.iload 4, 2) := by decide +kernel
theorem dL_law_398 : decode cL_law 398 = .ok (.iconst 1, 1) := by decide +kernel
theorem dL_law_399 : decode cL_law 399 = .ok (.iadd, 1) := by decide +kernel
theorem dL_law_400 : decode cL_law 400 = .ok (.iaload, 1) := by decide +kernel
theorem dL_law_401 : decode cL_law 401 = .ok (.invokevirtual 53, 3) := by decide +kernel
theorem dL_law_404 : decode cL_law 404 = .ok (.pop, 1) := by decide +kernel
theorem dL_law_405 : decode cL_law 405 = .ok (.aload_n 2, 1) := by decide +kernel
theorem dL_law_406 : decode cL_law 406 = .ok (.aload_n 0, 1) := by decide +kernel
theorem dL_law_407 : decode cL_law 407 = .ok (.iload 4, 2) := by decide +kernel
theorem dL_law_409 : decode cL_law 409 = .ok (.iconst 1, 1) := by decide +kernel
theorem dL_law_410 : decode cL_law 410 = .ok (.iadd, 1) := by decide +kernel
theorem dL_law_411 : decode cL_law 411 = .ok (.iaload, 1) := by decide +kernel
theorem dL_law_412 : decode cL_law 412 = .ok (.invokevirtual 56, 3) := by decide +kernel
theorem dL_law_415 : decode cL_law 415 = .ok (.pop, 1) := by decide +kernel
theorem dL_law_416 : decode cL_law 416 = .ok (.goto 612, 3) := by decide +kernel
theorem dL_law_419 : decode cL_law 419 = .ok (.aload_n 1, 1) := by decide +kernel
theorem dL_law_420 : decode cL_law 420 = .ok (.aload_n 0, 1) := by decide +kernel
theorem dL_law_421 : decode cL_law 421 = .ok (.iload 4, 2) := by decide +kernel
theorem dL_law_423 : decode cL_law 423 = .ok (.iconst 1, 1) := by decide +kernel
theorem dL_law_424 : decode cL_law 424 = .ok (.iadd, 1) := by decide +kernel
theorem dL_law_425 : decode cL_law 425 = .ok (.iaload, 1) := by decide +kernel
theorem dL_law_426 : decode cL_law 426 = .ok (.invokevirtual 57, 3) := by decide +kernel
theorem dL_law_429 : decode cL_law 429 = .ok (.aload_n 2, 1) := by decide +kernel
theorem dL_law_430 : decode cL_law 430 = .ok (.aload_n 0, 1) := by decide +kernel
theorem dL_law_431 : decode cL_law 431 = .ok (.iload 4, 2) := by decide +kernel
theorem dL_law_433 : decode cL_law 433 = .ok (.iconst 1, 1) := by decide +kernel
theorem dL_law_434 : decode cL_law 434 = .ok (.iadd, 1) := by decide +kernel
theorem dL_law_435 : decode cL_law 435 = .ok (.iaload, 1) := by decide +kernel
theorem dL_law_436 : decode cL_law 436 = .ok (.invokevirtual 60, 3) := by decide +kernel
theorem dL_law_439 : decode cL_law 439 = .ok (.if_icmp .eq 589, 3) := by decide +kernel
theorem dL_law_442 : decode cL_law 442 = .ok (.iconst 0, 1) := by decide +kernel
theorem dL_law_443 : decode cL_law 443 = .ok (.ireturn, 1) := by decide +kernel
theorem dL_law_444 : decode cL_law 444 = .ok (.aload_n 1, 1) := by decide +kernel
theorem dL_law_445 : decode cL_law 445 = .ok (.aload_n 0, 1) := by decide +kernel
theorem dL_law_446 : decode cL_law 446 = .ok (.iload 4, 2) := by decide +kernel
theorem dL_law_448 : decode cL_law 448 = .ok (.iconst 1, 1) := by decide +kernel
theorem dL_law_449 : decode cL_law 449 = .ok (.iadd, 1) := by decide +kernel
theorem dL_law_450 : decode cL_law 450 = .ok (.iaload, 1) := by decide +kernel
theorem dL_law_451 : decode cL_law 451 = .ok (.aload_n 0, 1) := by decide +kernel
theorem dL_law_452 : decode cL_law 452 = .ok (.iload 4, 2) := by decide +kernel
theorem dL_law_454 : decode cL_law 454 = .ok (.iconst 2, 1) := by decide +kernel
theorem dL_law_455 : decode cL_law 455 = .ok (.iadd, 1) := by decide +kernel
theorem dL_law_456 : decode cL_law 456 = .ok (.iaload, 1) := by decide +kernel
theorem dL_law_457 : decode cL_law 457 = .ok (.invokevirtual 61, 3) := by decide +kernel
theorem dL_law_460 : decode cL_law 460 = .ok (.pop, 1) := by decide +kernel
theorem dL_law_461 : decode cL_law 461 = .ok (.aload_n 2, 1) := by decide +kernel
theorem dL_law_462 : decode cL_law 462 = .ok (.aload_n 0, 1) := by decide +kernel
theorem dL_law_463 : decode cL_law 463 = .ok (.iload 4, 2) := by decide +kernel
theorem dL_law_465 : decode cL_law 465 = .ok (.iconst 1, 1) := by decide +kernel
theorem dL_law_466 : decode cL_law 466 = .ok (.iadd, 1) := by decide +kernel
theorem dL_law_467 : decode cL_law 467 = .ok (.iaload, 1) := by decide +kernel
theorem dL_law_468 : decode cL_law 468 = .ok (.aload_n 0, 1) := by decide +kernel
theorem dL_law_469 : decode cL_law 469 = .ok (.iload 4, 2) := by decide +kernel
theorem dL_law_471 : decode cL_law 471 = .ok (.iconst 2, 1) := by decide +kernel
theorem dL_law_472 : decode cL_law 472 = .ok (.iadd, 1) := by decide +kernel
theorem dL_law_473 : decode cL_law 473 = .ok (.iaload, 1) := by decide +kernel
theorem dL_law_474 : decode cL_law 474 = .ok (.invokevirtual 64, 3) := by decide +kernel
theorem dL_law_477 : decode cL_law 477 = .ok (.pop, 1) := by decide +kernel
theorem dL_law_478 : decode cL_law 478 = .ok (.goto 550, 3) := by decide +kernel
theorem dL_law_481 : decode cL_law 481 = .ok (.aload_n 1, 1) := by decide +kernel
theorem dL_law_482 : decode cL_law 482 = .ok (.aload_n 0, 1) := by decide +kernel
theorem dL_law_483 : decode cL_law 483 = .ok (.iload 4, 2) := by decide +kernel
theorem dL_law_485 : decode cL_law 485 = .ok (.iconst 1, 1) := by decide +kernel
theorem dL_law_486 : decode cL_law 486 = .ok (.iadd, 1) := by decide +kernel
theorem dL_law_487 : decode cL_law 487 = .ok (.iaload, 1) := by decide +kernel
theorem dL_law_488 : decode cL_law 488 = .ok (.aload_n 0, 1) := by decide +kernel
theorem dL_law_489 : decode cL_law 489 = .ok (.iload 4, 2) := by decide +kernel
theorem dL_law_491 : decode cL_law 491 = .ok (.iconst 2, 1) := by decide +kernel
theorem dL_law_492 : decode cL_law 492 = .ok (.iadd, 1) := by decide +kernel
theorem dL_law_493 : decode cL_law 493 = .ok (.iaload, 1) := by decide +kernel
theorem dL_law_494 : decode cL_law 494 = .ok (.invokevirtual 65, 3) := by decide +kernel
theorem dL_law_497 : decode cL_law 497 = .ok (.pop, 1) := by decide +kernel
theorem dL_law_498 : decode cL_law 498 = .ok (.aload_n 2, 1) := by decide +kernel
theorem dL_law_499 : decode cL_law 499 = .ok (.aload_n 0, 1) := by decide +kernel
theorem dL_law_500 : decode cL_law 500 = .ok (.iload 4, 2) := by decide +kernel
theorem dL_law_502 : decode cL_law 502 = .ok (.iconst 1, 1) := by decide +kernel
theorem dL_law_503 : decode cL_law 503 = .ok (.iadd, 1) := by decide +kernel
theorem dL_law_504 : decode cL_law 504 = .ok (.iaload, 1) := by decide +kernel
theorem dL_law_505 : decode cL_law 505 = .ok (.aload_n 0, 1) := by decide +kernel
theorem dL_law_506 : decode cL_law 506 = .ok (.iload 4, 2) := by decide +kernel
theorem dL_law_508 : decode cL_law 508 = .ok (.iconst 2, 1) := by decide +kernel
theorem dL_law_509 : decode cL_law 509 = .ok (.iadd, 1) := by decide +kernel
theorem dL_law_510 : decode cL_law 510 = .ok (.iaload, 1) := by decide +kernel
theorem dL_law_511 : decode cL_law 511 = .ok (.invokevirtual 68, 3) := by decide +kernel
theorem dL_law_514 : decode cL_law 514 = .ok (.pop, 1) := by decide +kernel
theorem dL_law_515 : decode cL_law 515 = .ok (.goto 513, 3) := by decide +kernel
theorem dL_law_518 : decode cL_law 518 = .ok (.aload_n 1, 1) := by decide +kernel
theorem dL_law_519 : decode cL_law 519 = .ok (.aload_n 0, 1) := by decide +kernel
theorem dL_law_520 : decode cL_law 520 = .ok (.iload 4, 2) := by decide +kernel
theorem dL_law_522 : decode cL_law 522 = .ok (.iconst 1, 1) := by decide +kernel
theorem dL_law_523 : decode cL_law 523 = .ok (.iadd, 1) := by decide +kernel
theorem dL_law_524 : decode cL_law 524 = .ok (.iaload, 1) := by decide +kernel
theorem dL_law_525 : decode cL_law 525 = .ok (.invokevirtual 69, 3) := by decide +kernel
theorem dL_law_528 : decode cL_law 528 = .ok (.pop, 1) := by decide +kernel
theorem dL_law_529 : decode cL_law 529 = .ok (.aload_n 2, 1) := by decide +kernel
theorem dL_law_530 : decode cL_law 530 = .ok (.aload_n 0, 1) := by decide +kernel
theorem dL_law_531 : decode cL_law 531 = .ok (.iload 4, 2) := by decide +kernel
theorem dL_law_533 : decode cL_law 533 = .ok (.iconst 1, 1) := by decide +kernel
theorem dL_law_534 : decode cL_law 534 = .ok (.iadd, 1) := by decide +kernel
theorem dL_law_535 : decode cL_law 535 = .ok (.iaload, 1) := by decide +kernel
theorem dL_law_536 : decode cL_law 536 = .ok (.invokevirtual 72, 3) := by decide +kernel
theorem dL_law_539 : decode cL_law 539 = .ok (.pop, 1) := by decide +kernel
theorem dL_law_540 : decode cL_law 540 = .ok (.goto 488, 3) := by decide +kernel
theorem dL_law_543 : decode cL_law 543 = .ok (.aload_n 1, 1) := by decide +kernel
theorem dL_law_544 : decode cL_law 544 = .ok (.aload_n 0, 1) := by decide +kernel
theorem dL_law_545 : decode cL_law 545 = .ok (.iload 4, 2) := by decide +kernel
theorem dL_law_547 : decode cL_law 547 = .ok (.iconst 1, 1) := by decide +kernel
theorem dL_law_548 : decode cL_law 548 = .ok (.iadd, 1) := by decide +kernel
theorem dL_law_549 : decode cL_law 549 = .ok (.iaload, 1) := by decide +kernel
theorem dL_law_550 : decode cL_law 550 = .ok (.aload_n 0, 1) := by decide +kernel
theorem dL_law_551 : decode cL_law 551 = .ok (.iload 4, 2) := by decide +kernel
theorem dL_law_553 : decode cL_law 553 = .ok (.iconst 2, 1) := by decide +kernel
theorem dL_law_554 : decode cL_law 554 = .ok (.iadd, 1) := by decide +kernel
theorem dL_law_555 : decode cL_law 555 = .ok (.iaload, 1) := by decide +kernel
theorem dL_law_556 : decode cL_law 556 = .ok (.aload_n 0, 1) := by decide +kernel
theorem dL_law_557 : decode cL_law 557 = .ok (.iload 4, 2) := by decide +kernel
theorem dL_law_559 : decode cL_law 559 = .ok (.iconst 3, 1) := by decide +kernel
theorem dL_law_560 : decode cL_law 560 = .ok (.iadd, 1) := by decide +kernel
theorem dL_law_561 : decode cL_law 561 = .ok (.iaload, 1) := by decide +kernel
theorem dL_law_562 : decode cL_law 562 = .ok (.invokevirtual 73, 3) := by decide +kernel
theorem dL_law_565 : decode cL_law 565 = .ok (.pop, 1) := by decide +kernel
theorem dL_law_566 : decode cL_law 566 = .ok (.aload_n 2, 1) := by decide +kernel
theorem dL_law_567 : decode cL_law 567 = .ok (.aload_n 0, 1) := by decide +kernel
theorem dL_law_568 : decode cL_law 568 = .ok (.iload 4, 2) := by decide +kernel
theorem dL_law_570 : decode cL_law 570 = .ok (.iconst 1, 1) := by decide +kernel
theorem dL_law_571 : decode cL_law 571 = .ok (.iadd, 1) := by decide +kernel
theorem dL_law_572 : decode cL_law 572 = .ok (.iaload, 1) := by decide +kernel
theorem dL_law_573 : decode cL_law 573 = .ok (.aload_n 0, 1) := by decide +kernel
theorem dL_law_574 : decode cL_law 574 = .ok (.iload 4, 2) := by decide +kernel
theorem dL_law_576 : decode cL_law 576 = .ok (.iconst 2, 1) := by decide +kernel
theorem dL_law_577 : decode cL_law 577 = .ok (.iadd, 1) := by decide +kernel
theorem dL_law_578 : decode cL_law 578 = .ok (.iaload, 1) := by decide +kernel
theorem dL_law_579 : decode cL_law 579 = .ok (.aload_n 0, 1) := by decide +kernel
theorem dL_law_580 : decode cL_law 580 = .ok (.iload 4, 2) := by decide +kernel
theorem dL_law_582 : decode cL_law 582 = .ok (.iconst 3, 1) := by decide +kernel
theorem dL_law_583 : decode cL_law 583 = .ok (.iadd, 1) := by decide +kernel
theorem dL_law_584 : decode cL_law 584 = .ok (.iaload, 1) := by decide +kernel
theorem dL_law_585 : decode cL_law 585 = .ok (.invokevirtual 76, 3) := by decide +kernel
theorem dL_law_588 : decode cL_law 588 = .ok (.pop, 1) := by decide +kernel
theorem dL_law_589 : decode cL_law 589 = .ok (.goto 439, 3) := by decide +kernel
theorem dL_law_592 : decode cL_law 592 = .ok (.aload_n 1, 1) := by decide +kernel
theorem dL_law_593 : decode cL_law 593 = .ok (.aload_n 0, 1) := by decide +kernel
theorem dL_law_594 : decode cL_law 594 = .ok (.iload 4, 2) := by decide +kernel
theorem dL_law_596 : decode cL_law 596 = .ok (.iconst 1, 1) := by decide +kernel
theorem dL_law_597 : decode cL_law 597 = .ok (.iadd, 1) := by decide +kernel
theorem dL_law_598 : decode cL_law 598 = .ok (.iaload, 1) := by decide +kernel
theorem dL_law_599 : decode cL_law 599 = .ok (.invokevirtual 77, 3) := by decide +kernel
theorem dL_law_602 : decode cL_law 602 = .ok (.pop, 1) := by decide +kernel
theorem dL_law_603 : decode cL_law 603 = .ok (.aload_n 2, 1) := by decide +kernel
theorem dL_law_604 : decode cL_law 604 = .ok (.aload_n 0, 1) := by decide +kernel
theorem dL_law_605 : decode cL_law 605 = .ok (.iload 4, 2) := by decide +kernel
theorem dL_law_607 : decode cL_law 607 = .ok (.iconst 1, 1) := by decide +kernel
theorem dL_law_608 : decode cL_law 608 = .ok (.iadd, 1) := by decide +kernel
theorem dL_law_609 : decode cL_law 609 = .ok (.iaload, 1) := by decide +kernel
theorem dL_law_610 : decode cL_law 610 = .ok (.invokevirtual 80, 3) := by decide +kernel
theorem dL_law_613 : decode cL_law 613 = .ok (.pop, 1) := by decide +kernel
theorem dL_law_614 : decode cL_law 614 = .ok (.goto 414, 3) := by decide +kernel
theorem dL_law_617 : decode cL_law 617 = .ok (.aload_n 1, 1) := by decide +kernel
theorem dL_law_618 : decode cL_law 618 = .ok (.aload_n 0, 1) := by decide +kernel
theorem dL_law_619 : decode cL_law 619 = .ok (.iload 4, 2) := by decide +kernel
theorem dL_law_621 : decode cL_law 621 = .ok (.iconst 1, 1) := by decide +kernel
theorem dL_law_622 : decode cL_law 622 = .ok (.iadd, 1) := by decide +kernel
theorem dL_law_623 : decode cL_law 623 = .ok (.iaload, 1) := by decide +kernel
theorem dL_law_624 : decode cL_law 624 = .ok (.invokevirtual 81, 3) := by decide +kernel
theorem dL_law_627 : decode cL_law 627 = .ok (.pop, 1) := by decide +kernel
theorem dL_law_628 : decode cL_law 628 = .ok (.aload_n 2, 1) := by decide +kernel
theorem dL_law_629 : decode cL_law 629 = .ok (.aload_n 0, 1) := by decide +kernel
theorem dL_law_630 : decode cL_law 630 = .ok (.iload 4, 2) := by decide +kernel
theorem dL_law_632 : decode cL_law 632 = .ok (.iconst 1, 1) := by decide +kernel
theorem dL_law_633 : decode cL_law 633 = .ok (.iadd, 1) := by decide +kernel
theorem dL_law_634 : decode cL_law 634 = .ok (.iaload, 1) := by decide +kernel
theorem dL_law_635 : decode cL_law 635 = .ok (.invokevirtual 84, 3) := by decide +kernel
theorem dL_law_638 : decode cL_law 638 = .ok (.pop, 1) := by decide +kernel
theorem dL_law_639 : decode cL_law 639 = .ok (.goto 389, 3) := by decide +kernel
theorem dL_law_642 : decode cL_law 642 = .ok (.aload_n 1, 1) := by decide +kernel
theorem dL_law_643 : decode cL_law 643 = .ok (.aload_n 0, 1) := by decide +kernel
theorem dL_law_644 : decode cL_law 644 = .ok (.iload 4, 2) := by decide +kernel
theorem dL_law_646 : decode cL_law 646 = .ok (.iconst 1, 1) := by decide +kernel
theorem dL_law_647 : decode cL_law 647 = .ok (.iadd, 1) := by decide +kernel
theorem dL_law_648 : decode cL_law 648 = .ok (.iaload, 1) := by decide +kernel
theorem dL_law_649 : decode cL_law 649 = .ok (.aload_n 0, 1) := by decide +kernel
theorem dL_law_650 : decode cL_law 650 = .ok (.iload 4, 2) := by decide +kernel
theorem dL_law_652 : decode cL_law 652 = .ok (.iconst 2, 1) := by decide +kernel
theorem dL_law_653 : decode cL_law 653 = .ok (.iadd, 1) := by decide +kernel
theorem dL_law_654 : decode cL_law 654 = .ok (.iaload, 1) := by decide +kernel
theorem dL_law_655 : decode cL_law 655 = .ok (.invokevirtual 85, 3) := by decide +kernel
theorem dL_law_658 : decode cL_law 658 = .ok (.pop, 1) := by decide +kernel
theorem dL_law_659 : decode cL_law 659 = .ok (.aload_n 2, 1) := by decide +kernel
theorem dL_law_660 : decode cL_law 660 = .ok (.aload_n 0, 1) := by decide +kernel
theorem dL_law_661 : decode cL_law 661 = .ok (.iload 4, 2) := by decide +kernel
theorem dL_law_663 : decode cL_law 663 = .ok (.iconst 1, 1) := by decide +kernel
theorem dL_law_664 : decode cL_law 664 = .ok (.iadd, 1) := by decide +kernel
theorem dL_law_665 : decode cL_law 665 = .ok (.iaload, 1) := by decide +kernel
theorem dL_law_666 : decode cL_law 666 = .ok (.aload_n 0, 1) := by decide +kernel
theorem dL_law_667 : decode cL_law 667 = .ok (.iload 4, 2) := by decide +kernel
theorem dL_law_669 : decode cL_law 669 = .ok (.iconst 2, 1) := by decide +kernel
theorem dL_law_670 : decode cL_law 670 = .ok (.iadd, 1) := by decide +kernel
theorem dL_law_671 : decode cL_law 671 = .ok (.iaload, 1) := by decide +kernel
theorem dL_law_672 : decode cL_law 672 = .ok (.invokevirtual 88, 3) := by decide +kernel
theorem dL_law_675 : decode cL_law 675 = .ok (.pop, 1) := by decide +kernel
theorem dL_law_676 : decode cL_law 676 = .ok (.goto 352, 3) := by decide +kernel
theorem dL_law_679 : decode cL_law 679 = .ok (.aload_n 1, 1) := by decide +kernel
theorem dL_law_680 : decode cL_law 680 = .ok (.aload_n 0, 1) := by decide +kernel
theorem dL_law_681 : decode cL_law 681 = .ok (.iload 4, 2) := by decide +kernel
theorem dL_law_683 : decode cL_law 683 = .ok (.iconst 1, 1) := by decide +kernel
theorem dL_law_684 : decode cL_law 684 = .ok (.iadd, 1) := by decide +kernel
theorem dL_law_685 : decode cL_law 685 = .ok (.iaload, 1) := by decide +kernel
theorem dL_law_686 : decode cL_law 686 = .ok (.aload_n 0, 1) := by decide +kernel
theorem dL_law_687 : decode cL_law 687 = .ok (.iload 4, 2) := by decide +kernel
theorem dL_law_689 : decode cL_law 689 = .ok (.iconst 2, 1) := by decide +kernel
theorem dL_law_690 : decode cL_law 690 = .ok (.iadd, 1) := by decide +kernel
theorem dL_law_691 : decode cL_law 691 = .ok (.iaload, 1) := by decide +kernel
theorem dL_law_692 : decode cL_law 692 = .ok (.invokevirtual 89, 3) := by decide +kernel
theorem dL_law_695 : decode cL_law 695 = .ok (.pop, 1) := by decide +kernel
theorem dL_law_696 : decode cL_law 696 = .ok (.aload_n 2, 1) := by decide +kernel
theorem dL_law_697 : decode cL_law 697 = .ok (.aload_n 0, 1) := by decide +kernel
theorem dL_law_698 : decode cL_law 698 = .ok (.iload 4, 2) := by decide +kernel
theorem dL_law_700 : decode cL_law 700 = .ok (.iconst 1, 1) := by decide +kernel
theorem dL_law_701 : decode cL_law 701 = .ok (.iadd, 1) := by decide +kernel
theorem dL_law_702 : decode cL_law 702 = .ok (.iaload, 1) := by decide +kernel
theorem dL_law_703 : decode cL_law 703 = .ok (.aload_n 0, 1) := by decide +kernel
theorem dL_law_704 : decode cL_law 704 = .ok (.iload 4, 2) := by decide +kernel
theorem dL_law_706 : decode cL_law 706 = .ok (.iconst 2, 1) := by decide +kernel
theorem dL_law_707 : decode cL_law 707 = .ok (.iadd, 1) := by decide +kernel
theorem dL_law_708 : decode cL_law 708 = .ok (.iaload, 1) := by decide +kernel
theorem dL_law_709 : decode cL_law 709 = .ok (.invokevirtual 92, 3) := by decide +kernel
theorem dL_law_712 : decode cL_law 712 = .ok (.pop, 1) := by decide +kernel
theorem dL_law_713 : decode cL_law 713 = .ok (.goto 315, 3) := by decide +kernel
theorem dL_law_716 : decode cL_law 716 = .ok (.aload_n 1, 1) := by decide +kernel
theorem dL_law_717 : decode cL_law 717 = .ok (.aload_n 0, 1) := by decide +kernel
theorem dL_law_718 : decode cL_law 718 = .ok (.iload 4, 2) := by decide +kernel
theorem dL_law_720 : decode cL_law 720 = .ok (.iconst 1, 1) := by decide +kernel
theorem dL_law_721 : decode cL_law 721 = .ok (.iadd, 1) := by decide +kernel
theorem dL_law_722 : decode cL_law 722 = .ok (.iaload, 1) := by decide +kernel
theorem dL_law_723 : decode cL_law 723 = .ok (.aload_n 0, 1) := by decide +kernel
theorem dL_law_724 : decode cL_law 724 = .ok (.iload 4, 2) := by decide +kernel
theorem dL_law_726 : decode cL_law 726 = .ok (.iconst 2, 1) := by decide +kernel
theorem dL_law_727 : decode cL_law 727 = .ok (.iadd, 1) := by decide +kernel
theorem dL_law_728 : decode cL_law 728 = .ok (.iaload, 1) := by decide +kernel
theorem dL_law_729 : decode cL_law 729 = .ok (.invokevirtual 93, 3) := by decide +kernel
theorem dL_law_732 : decode cL_law 732 = .ok (.pop, 1) := by decide +kernel
theorem dL_law_733 : decode cL_law 733 = .ok (.aload_n 2, 1) := by decide +kernel
theorem dL_law_734 : decode cL_law 734 = .ok (.aload_n 0, 1) := by decide +kernel
theorem dL_law_735 : decode cL_law 735 = .ok (.iload 4, 2) := by decide +kernel
theorem dL_law_737 : decode cL_law 737 = .ok (.iconst 1, 1) := by decide +kernel
theorem dL_law_738 : decode cL_law 738 = .ok (.iadd, 1) := by decide +kernel
theorem dL_law_739 : decode cL_law 739 = .ok (.iaload, 1) := by decide +kernel
theorem dL_law_740 : decode cL_law 740 = .ok (.aload_n 0, 1) := by decide +kernel
theorem dL_law_741 : decode cL_law 741 = .ok (.iload 4, 2) := by decide +kernel
theorem dL_law_743 : decode cL_law 743 = .ok (.iconst 2, 1) := by decide +kernel
theorem dL_law_744 : decode cL_law 744 = .ok (.iadd, 1) := by decide +kernel
theorem dL_law_745 : decode cL_law 745 = .ok (.iaload, 1) := by decide +kernel
theorem dL_law_746 : decode cL_law 746 = .ok (.invokevirtual 96, 3) := by decide +kernel
theorem dL_law_749 : decode cL_law 749 = .ok (.pop, 1) := by decide +kernel
theorem dL_law_750 : decode cL_law 750 = .ok (.goto 278, 3) := by decide +kernel
theorem dL_law_753 : decode cL_law 753 = .ok (.aload_n 1, 1) := by decide +kernel
theorem dL_law_754 : decode cL_law 754 = .ok (.aload_n 0, 1) := by decide +kernel
theorem dL_law_755 : decode cL_law 755 = .ok (.iload 4, 2) := by decide +kernel
theorem dL_law_757 : decode cL_law 757 = .ok (.iconst 1, 1) := by decide +kernel
theorem dL_law_758 : decode cL_law 758 = .ok (.iadd, 1) := by decide +kernel
theorem dL_law_759 : decode cL_law 759 = .ok (.iaload, 1) := by decide +kernel
theorem dL_law_760 : decode cL_law 760 = .ok (.aload_n 0, 1) := by decide +kernel
theorem dL_law_761 : decode cL_law 761 = .ok (.iload 4, 2) := by decide +kernel
theorem dL_law_763 : decode cL_law 763 = .ok (.iconst 2, 1) := by decide +kernel
theorem dL_law_764 : decode cL_law 764 = .ok (.iadd, 1) := by decide +kernel
theorem dL_law_765 : decode cL_law 765 = .ok (.iaload, 1) := by decide +kernel
theorem dL_law_766 : decode cL_law 766 = .ok (.invokevirtual 97, 3) := by decide +kernel
theorem dL_law_769 : decode cL_law 769 = .ok (.pop, 1) := by decide +kernel
theorem dL_law_770 : decode cL_law 770 = .ok (.aload_n 2, 1) := by decide +kernel
theorem dL_law_771 : decode cL_law 771 = .ok (.aload_n 0, 1) := by decide +kernel
theorem dL_law_772 : decode cL_law 772 = .ok (.iload 4, 2) := by decide +kernel
theorem dL_law_774 : decode cL_law 774 = .ok (.iconst 1, 1) := by decide +kernel
theorem dL_law_775 : decode cL_law 775 = .ok (.iadd, 1) := by decide +kernel
theorem dL_law_776 : decode cL_law 776 = .ok (.iaload, 1) := by decide +kernel
theorem dL_law_777 : decode cL_law 777 = .ok (.aload_n 0, 1) := by decide +kernel
theorem dL_law_778 : decode cL_law 778 = .ok (.iload 4, 2) := by decide +kernel
theorem dL_law_780 : decode cL_law 780 = .ok (.iconst 2, 1) := by decide +kernel
theorem dL_law_781 : decode cL_law 781 = .ok (.iadd, 1) := by decide +kernel
theorem dL_law_782 : decode cL_law 782 = .ok (.iaload, 1) := by decide +kernel
theorem dL_law_783 : decode cL_law 783 = .ok (.invokevirtual 100, 3) := by decide +kernel
theorem dL_law_786 : decode cL_law 786 = .ok (.pop, 1) := by decide +kernel
theorem dL_law_787 : decode cL_law 787 = .ok (.goto 241, 3) := by decide +kernel
theorem dL_law_790 : decode cL_law 790 = .ok (.aload_n 1, 1) := by decide +kernel
theorem dL_law_791 : decode cL_law 791 = .ok (.aload_n 0, 1) := by decide +kernel
theorem dL_law_792 : decode cL_law 792 = .ok (.iload 4, 2) := by decide +kernel
theorem dL_law_794 : decode cL_law 794 = .ok (.iconst 1, 1) := by decide +kernel
theorem dL_law_795 : decode cL_law 795 = .ok (.iadd, 1) := by decide +kernel
theorem dL_law_796 : decode cL_law 796 = .ok (.iaload, 1) := by decide +kernel
theorem dL_law_797 : decode cL_law 797 = .ok (.invokevirtual 101, 3) := by decide +kernel
theorem dL_law_800 : decode cL_law 800 = .ok (.pop, 1) := by decide +kernel
theorem dL_law_801 : decode cL_law 801 = .ok (.aload_n 2, 1) := by decide +kernel
theorem dL_law_802 : decode cL_law 802 = .ok (.aload_n 0, 1) := by decide +kernel
theorem dL_law_803 : decode cL_law 803 = .ok (.iload 4, 2) := by decide +kernel
theorem dL_law_805 : decode cL_law 805 = .ok (.iconst 1, 1) := by decide +kernel
theorem dL_law_806 : decode cL_law 806 = .ok (.iadd, 1) := by decide +kernel
theorem dL_law_807 : decode cL_law 807 = .ok (.iaload, 1) := by decide +kernel
theorem dL_law_808 : decode cL_law 808 = .ok (.invokevirtual 104, 3) := by decide +kernel
theorem dL_law_811 : decode cL_law 811 = .ok (.pop, 1) := by decide +kernel
theorem dL_law_812 : decode cL_law 812 = .ok (.goto 216, 3) := by decide +kernel
theorem dL_law_815 : decode cL_law 815 = .ok (.aload_n 1, 1) := by decide +kernel
theorem dL_law_816 : decode cL_law 816 = .ok (.invokevirtual 105, 3) := by decide +kernel
theorem dL_law_819 : decode cL_law 819 = .ok (.pop, 1) := by decide +kernel
theorem dL_law_820 : decode cL_law 820 = .ok (.aload_n 2, 1) := by decide +kernel
theorem dL_law_821 : decode cL_law 821 = .ok (.invokevirtual 108, 3) := by decide +kernel
theorem dL_law_824 : decode cL_law 824 = .ok (.pop, 1) := by decide +kernel
theorem dL_law_825 : decode cL_law 825 = .ok (.goto 203, 3) := by decide +kernel
theorem dL_law_828 : decode cL_law 828 = .ok (.aload_n 1, 1) := by decide +kernel
theorem dL_law_829 : decode cL_law 829 = .ok (.aload_n 0, 1) := by decide +kernel
theorem dL_law_830 : decode cL_law 830 = .ok (.iload 4, 2) := by decide +kernel
theorem dL_law_832 : decode cL_law 832 = .ok (.iconst 1, 1) := by decide +kernel
theorem dL_law_833 : decode cL_law 833 = .ok (.iadd, 1) := by decide +kernel
theorem dL_law_834 : decode cL_law 834 = .ok (.iaload, 1) := by decide +kernel
theorem dL_law_835 : decode cL_law 835 = .ok (.invokevirtual 109, 3) := by decide +kernel
theorem dL_law_838 : decode cL_law 838 = .ok (.pop, 1) := by decide +kernel
theorem dL_law_839 : decode cL_law 839 = .ok (.aload_n 2, 1) := by decide +kernel
theorem dL_law_840 : decode cL_law 840 = .ok (.aload_n 0, 1) := by decide +kernel
theorem dL_law_841 : decode cL_law 841 = .ok (.iload 4, 2) := by decide +kernel
theorem dL_law_843 : decode cL_law 843 = .ok (.iconst 1, 1) := by decide +kernel
theorem dL_law_844 : decode cL_law 844 = .ok (.iadd, 1) := by decide +kernel
theorem dL_law_845 : decode cL_law 845 = .ok (.iaload, 1) := by decide +kernel
theorem dL_law_846 : decode cL_law 846 = .ok (.invokevirtual 112, 3) := by decide +kernel
theorem dL_law_849 : decode cL_law 849 = .ok (.pop, 1) := by decide +kernel
theorem dL_law_850 : decode cL_law 850 = .ok (.goto 178, 3) := by decide +kernel
theorem dL_law_853 : decode cL_law 853 = .ok (.aload_n 1, 1) := by decide +kernel
theorem dL_law_854 : decode cL_law 854 = .ok (.aload_n 0, 1) := by decide +kernel
theorem dL_law_855 : decode cL_law 855 = .ok (.iload 4, 2) := by decide +kernel
theorem dL_law_857 : decode cL_law 857 = .ok (.iconst 1, 1) := by decide +kernel
theorem dL_law_858 : decode cL_law 858 = .ok (.iadd, 1) := by decide +kernel
theorem dL_law_859 : decode cL_law 859 = .ok (.iaload, 1) := by decide +kernel
theorem dL_law_860 : decode cL_law 860 = .ok (.aload_n 0, 1) := by decide +kernel
theorem dL_law_861 : decode cL_law 861 = .ok (.iload 4, 2) := by decide +kernel
theorem dL_law_863 : decode cL_law 863 = .ok (.iconst 2, 1) := by decide +kernel
theorem dL_law_864 : decode cL_law 864 = .ok (.iadd, 1) := by decide +kernel
theorem dL_law_865 : decode cL_law 865 = .ok (.iaload, 1) := by decide +kernel
theorem dL_law_866 : decode cL_law 866 = .ok (.invokevirtual 113, 3) := by decide +kernel
theorem dL_law_869 : decode cL_law 869 = .ok (.pop, 1) := by decide +kernel
theorem dL_law_870 : decode cL_law 870 = .ok (.aload_n 2, 1) := by decide +kernel
theorem dL_law_871 : decode cL_law 871 = .ok (.aload_n 0, 1) := by decide +kernel
theorem dL_law_872 : decode cL_law 872 = .ok (.iload 4, 2) := by decide +kernel
theorem dL_law_874 : decode cL_law 874 = .ok (.iconst 1, 1) := by decide +kernel
theorem dL_law_875 : decode cL_law 875 = .ok (.iadd, 1) := by decide +kernel
theorem dL_law_876 : decode cL_law 876 = .ok (.iaload, 1) := by decide +kernel
theorem dL_law_877 : decode cL_law 877 = .ok (.aload_n 0, 1) := by decide +kernel
theorem dL_law_878 : decode cL_law 878 = .ok (.iload 4, 2) := by decide +kernel
theorem dL_law_880 : decode cL_law 880 = .ok (.iconst 2, 1) := by decide +kernel
theorem dL_law_881 : decode cL_law 881 = .ok (.iadd, 1) := by decide +kernel
theorem dL_law_882 : decode cL_law 882 = .ok (.iaload, 1) := by decide +kernel
theorem dL_law_883 : decode cL_law 883 = .ok (.invokevirtual 116, 3) := by decide +kernel
theorem dL_law_886 : decode cL_law 886 = .ok (.pop, 1) := by decide +kernel
theorem dL_law_887 : decode cL_law 887 = .ok (.goto 141, 3) := by decide +kernel
theorem dL_law_890 : decode cL_law 890 = .ok (.aload_n 1, 1) := by decide +kernel
theorem dL_law_891 : decode cL_law 891 = .ok (.invokevirtual 117, 3) := by decide +kernel
theorem dL_law_894 : decode cL_law 894 = .ok (.pop, 1) := by decide +kernel
theorem dL_law_895 : decode cL_law 895 = .ok (.aload_n 2, 1) := by decide +kernel
theorem dL_law_896 : decode cL_law 896 = .ok (.invokevirtual 120, 3) := by decide +kernel
theorem dL_law_899 : decode cL_law 899 = .ok (.pop, 1) := by decide +kernel
theorem dL_law_900 : decode cL_law 900 = .ok (.goto 128, 3) := by decide +kernel
theorem dL_law_903 : decode cL_law 903 = .ok (.aload_n 1, 1) := by decide +kernel
theorem dL_law_904 : decode cL_law 904 = .ok (.invokevirtual 121, 3) := by decide +kernel
theorem dL_law_907 : decode cL_law 907 = .ok (.pop, 1) := by decide +kernel
theorem dL_law_908 : decode cL_law 908 = .ok (.aload_n 2, 1) := by decide +kernel
theorem dL_law_909 : decode cL_law 909 = .ok (.invokevirtual 124, 3) := by decide +kernel
theorem dL_law_912 : decode cL_law 912 = .ok (.pop, 1) := by decide +kernel
theorem dL_law_913 : decode cL_law 913 = .ok (.goto 115, 3) := by decide +kernel
theorem dL_law_916 : decode cL_law 916 = .ok (.aload_n 1, 1) := by decide +kernel
theorem dL_law_917 : decode cL_law 917 = .ok (.aload_n 0, 1) := by decide +kernel
theorem dL_law_918 : decode cL_law 918 = .ok (.iload 4, 2) := by decide +kernel
theorem dL_law_920 : decode cL_law 920 = .ok (.iconst 1, 1) := by decide +kernel
theorem dL_law_921 : decode cL_law 921 = .ok (.iadd, 1) := by decide +kernel
theorem dL_law_922 : decode cL_law 922 = .ok (.iaload, 1) := by decide +kernel
theorem dL_law_923 : decode cL_law 923 = .ok (.invokevirtual 125, 3) := by decide +kernel
theorem dL_law_926 : decode cL_law 926 = .ok (.pop, 1) := by decide +kernel
theorem dL_law_927 : decode cL_law 927 = .ok (.aload_n 2, 1) := by decide +kernel
theorem dL_law_928 : decode cL_law 928 = .ok (.aload_n 0, 1) := by decide +kernel
theorem dL_law_929 : decode cL_law 929 = .ok (.iload 4, 2) := by decide +kernel
theorem dL_law_931 : decode cL_law 931 = .ok (.iconst 1, 1) := by decide +kernel
theorem dL_law_932 : decode cL_law 932 = .ok (.iadd, 1) := by decide +kernel
theorem dL_law_933 : decode cL_law 933 = .ok (.iaload, 1) := by decide +kernel
theorem dL_law_934 : decode cL_law 934 = .ok (.invokevirtual 128, 3) := by decide +kernel
theorem dL_law_937 : decode cL_law 937 = .ok (.pop, 1) := by decide +kernel
theorem dL_law_938 : decode cL_law 938 = .ok (.goto 90, 3) := by decide +kernel
theorem dL_law_941 : decode cL_law 941 = .ok (.aload_n 1, 1) := by decide +kernel
theorem dL_law_942 : decode cL_law 942 = .ok (.aload_n 0, 1) := by decide +kernel
theorem dL_law_943 : decode cL_law 943 = .ok (.iload 4, 2) := by decide +kernel
theorem dL_law_945 : decode cL_law 945 = .ok (.iconst 1, 1) := by decide +kernel
theorem dL_law_946 : decode cL_law 946 = .ok (.iadd, 1) := by decide +kernel
theorem dL_law_947 : decode cL_law 947 = .ok (.iaload, 1) := by decide +kernel
theorem dL_law_948 : decode cL_law 948 = .ok (.invokevirtual 129, 3) := by decide +kernel
theorem dL_law_951 : decode cL_law 951 = .ok (.pop, 1) := by decide +kernel
theorem dL_law_952 : decode cL_law 952 = .ok (.aload_n 2, 1) := by decide +kernel
theorem dL_law_953 : decode cL_law 953 = .ok (.aload_n 0, 1) := by decide +kernel
theorem dL_law_954 : decode cL_law 954 = .ok (.iload 4, 2) := by decide +kernel
theorem dL_law_956 : decode cL_law 956 = .ok (.iconst 1, 1) := by decide +kernel
theorem dL_law_957 : decode cL_law 957 = .ok (.iadd, 1) := by decide +kernel
theorem dL_law_958 : decode cL_law 958 = .ok (.iaload, 1) := by decide +kernel
theorem dL_law_959 : decode cL_law 959 = .ok (.invokevirtual 132, 3) := by decide +kernel
theorem dL_law_962 : decode cL_law 962 = .ok (.pop, 1) := by decide +kernel
theorem dL_law_963 : decode cL_law 963 = .ok (.goto 65, 3) := by decide +kernel
theorem dL_law_966 : decode cL_law 966 = .ok (.aload_n 1, 1) := by decide +kernel
theorem dL_law_967 : decode cL_law 967 = .ok (.aload_n 0, 1) := by decide +kernel
theorem dL_law_968 : decode cL_law 968 = .ok (.iload 4, 2) := by decide +kernel
theorem dL_law_970 : decode cL_law 970 = .ok (.iconst 1, 1) := by decide +kernel
theorem dL_law_971 : decode cL_law 971 = .ok (.iadd, 1) := by decide +kernel
theorem dL_law_972 : decode cL_law 972 = .ok (.iaload, 1) := by decide +kernel
theorem dL_law_973 : decode cL_law 973 = .ok (.aload_n 0, 1) := by decide +kernel
theorem dL_law_974 : decode cL_law 974 = .ok (.iload 4, 2) := by decide +kernel
theorem dL_law_976 : decode cL_law 976 = .ok (.iconst 2, 1) := by decide +kernel
theorem dL_law_977 : decode cL_law 977 = .ok (.iadd, 1) := by decide +kernel
theorem dL_law_978 : decode cL_law 978 = .ok (.iaload, 1) := by decide +kernel
theorem dL_law_979 : decode cL_law 979 = .ok (.invokevirtual 133, 3) := by decide +kernel
theorem dL_law_982 : decode cL_law 982 = .ok (.pop, 1) := by decide +kernel
theorem dL_law_983 : decode cL_law 983 = .ok (.aload_n 2, 1) := by decide +kernel
theorem dL_law_984 : decode cL_law 984 = .ok (.aload_n 0, 1) := by decide +kernel
theorem dL_law_985 : decode cL_law 985 = .ok (.iload 4, 2) := by decide +kernel
theorem dL_law_987 : decode cL_law 987 = .ok (.iconst 1, 1) := by decide +kernel
theorem dL_law_988 : decode cL_law 988 = .ok (.iadd, 1) := by decide +kernel
theorem dL_law_989 : decode cL_law 989 = .ok (.iaload, 1) := by decide +kernel
theorem dL_law_990 : decode cL_law 990 = .ok (.aload_n 0, 1) := by decide +kernel
theorem dL_law_991 : decode cL_law 991 = .ok (.iload 4, 2) := by decide +kernel
theorem dL_law_993 : decode cL_law 993 = .ok (.iconst 2, 1) := by decide +kernel
theorem dL_law_994 : decode cL_law 994 = .ok (.iadd, 1) := by decide +kernel
theorem dL_law_995 : decode cL_law 995 = .ok (.iaload, 1) := by decide +kernel
theorem dL_law_996 : decode cL_law 996 = .ok (.invokevirtual 136, 3) := by decide +kernel
theorem dL_law_999 : decode cL_law 999 = .ok (.pop, 1) := by decide +kernel
theorem dL_law_1000 : decode cL_law 1000 = .ok (.goto 28, 3) := by decide +kernel
theorem dL_law_1003 : decode cL_law 1003 = .ok (.aload_n 1, 1) := by decide +kernel
theorem dL_law_1004 : decode cL_law 1004 = .ok (.aload_n 0, 1) := by decide +kernel
theorem dL_law_1005 : decode cL_law 1005 = .ok (.iload 4, 2) := by decide +kernel
theorem dL_law_1007 : decode cL_law 1007 = .ok (.iconst 1, 1) := by decide +kernel
theorem dL_law_1008 : decode cL_law 1008 = .ok (.iadd, 1) := by decide +kernel
theorem dL_law_1009 : decode cL_law 1009 = .ok (.iaload, 1) := by decide +kernel
theorem dL_law_1010 : decode cL_law 1010 = .ok (.invokevirtual 137, 3) := by decide +kernel
theorem dL_law_1013 : decode cL_law 1013 = .ok (.pop, 1) := by decide +kernel
theorem dL_law_1014 : decode cL_law 1014 = .ok (.aload_n 2, 1) := by decide +kernel
theorem dL_law_1015 : decode cL_law 1015 = .ok (.aload_n 0, 1) := by decide +kernel
theorem dL_law_1016 : decode cL_law 1016 = .ok (.iload 4, 2) := by decide +kernel
theorem dL_law_1018 : decode cL_law 1018 = .ok (.iconst 1, 1) := by decide +kernel
theorem dL_law_1019 : decode cL_law 1019 = .ok (.iadd, 1) := by decide +kernel
theorem dL_law_1020 : decode cL_law 1020 = .ok (.iaload, 1) := by decide +kernel
theorem dL_law_1021 : decode cL_law 1021 = .ok (.invokevirtual 140, 3) := by decide +kernel
theorem dL_law_1024 : decode cL_law 1024 = .ok (.pop, 1) := by decide +kernel
theorem dL_law_1025 : decode cL_law 1025 = .ok (.goto 3, 3) := by decide +kernel
theorem dL_law_1028 : decode cL_law 1028 = .ok (.iinc 4 4, 3) := by decide +kernel
theorem dL_law_1031 : decode cL_law 1031 = .ok (.goto (-1008), 3) := by decide +kernel
theorem dL_law_1034 : decode cL_law 1034 = .ok (.iconst 1, 1) := by decide +kernel
theorem dL_law_1035 : decode cL_law 1035 = .ok (.ireturn, 1) := by decide +kernel
