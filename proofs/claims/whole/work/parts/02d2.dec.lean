theorem dX3_worthiestMatch_23 : decode cX3_worthiestMatch 23 = .ok (.invokevirtual 60, 3) := by decide +kernel
theorem dX3_worthiestMatch_26 : decode cX3_worthiestMatch 26 = .ok (.ifCond .ne 17, 3) := by decide +kernel
theorem dX3_worthiestMatch_29 : decode cX3_worthiestMatch 29 = .ok (.aload_n 0, 1) := by decide +kernel
theorem dX3_worthiestMatch_30 : decode cX3_worthiestMatch 30 = .ok (.aload_n 1, 1) := by decide +kernel
theorem dX3_worthiestMatch_31 : decode cX3_worthiestMatch 31 = .ok (.iload_n 3, 1) := by decide +kernel
theorem dX3_worthiestMatch_32 : decode cX3_worthiestMatch 32 = .ok (.iconst 1, 1) := by decide +kernel
theorem dX3_worthiestMatch_33 : decode cX3_worthiestMatch 33 = .ok (.invokevirtual 60, 3) := by decide +kernel
theorem dX3_worthiestMatch_36 : decode cX3_worthiestMatch 36 = .ok (.ifCond .ne 7, 3) := by decide +kernel
theorem dX3_worthiestMatch_39 : decode cX3_worthiestMatch 39 = .ok (.iconst 1, 1) := by decide +kernel
theorem dX3_worthiestMatch_40 : decode cX3_worthiestMatch 40 = .ok (.goto 4, 3) := by decide +kernel
theorem dX3_worthiestMatch_43 : decode cX3_worthiestMatch 43 = .ok (.iconst 0, 1) := by decide +kernel
theorem dX3_worthiestMatch_44 : decode cX3_worthiestMatch 44 = .ok (.istore 4, 2) := by decide +kernel
theorem dX3_worthiestMatch_46 : decode cX3_worthiestMatch 46 = .ok (.iload 4, 2) := by decide +kernel
theorem dX3_worthiestMatch_48 : decode cX3_worthiestMatch 48 = .ok (.ifCond .eq 24, 3) := by decide +kernel
theorem dX3_worthiestMatch_51 : decode cX3_worthiestMatch 51 = .ok (.iload_n 2, 1) := by decide +kernel
theorem dX3_worthiestMatch_52 : decode cX3_worthiestMatch 52 = .ok (.ifCond .lt 18, 3) := by decide +kernel
theorem dX3_worthiestMatch_55 : decode cX3_worthiestMatch 55 = .ok (.aload_n 1, 1) := by decide +kernel
theorem dX3_worthiestMatch_56 : decode cX3_worthiestMatch 56 = .ok (.getfield 64, 3) := by decide +kernel
theorem dX3_worthiestMatch_59 : decode cX3_worthiestMatch 59 = .ok (.iload_n 3, 1) := by decide +kernel
theorem dX3_worthiestMatch_60 : decode cX3_worthiestMatch 60 = .ok (.iaload, 1) := by decide +kernel
theorem dX3_worthiestMatch_61 : decode cX3_worthiestMatch 61 = .ok (.aload_n 1, 1) := by decide +kernel
theorem dX3_worthiestMatch_62 : decode cX3_worthiestMatch 62 = .ok (.getfield 64, 3) := by decide +kernel
theorem dX3_worthiestMatch_65 : decode cX3_worthiestMatch 65 = .ok (.iload_n 2, 1) := by decide +kernel
theorem dX3_worthiestMatch_66 : decode cX3_worthiestMatch 66 = .ok (.iaload, 1) := by decide +kernel
theorem dX3_worthiestMatch_67 : decode cX3_worthiestMatch 67 = .ok (.if_icmp .le 5, 3) := by decide +kernel
theorem dX3_worthiestMatch_70 : decode cX3_worthiestMatch 70 = .ok (.iload_n 3, 1) := by decide +kernel
theorem dX3_worthiestMatch_71 : decode cX3_worthiestMatch 71 = .ok (.istore_n 2, 1) := by decide +kernel
theorem dX3_worthiestMatch_72 : decode cX3_worthiestMatch 72 = .ok (.iinc 3 1, 3) := by decide +kernel
theorem dX3_worthiestMatch_75 : decode cX3_worthiestMatch 75 = .ok (.goto (-71), 3) := by decide +kernel
theorem dX3_worthiestMatch_78 : decode cX3_worthiestMatch 78 = .ok (.iload_n 2, 1) := by decide +kernel
theorem dX3_worthiestMatch_79 : decode cX3_worthiestMatch 79 = .ok (.ireturn, 1) := by decide +kernel
theorem dX3_worthiestCourt_0 : decode cX3_worthiestCourt 0 = .ok (.iconst (-1), 1) := by decide +kernel
theorem dX3_worthiestCourt_1 : decode cX3_worthiestCourt 1 = .ok (.istore_n 2, 1) := by decide +kernel
theorem dX3_worthiestCourt_2 : decode cX3_worthiestCourt 2 = .ok (.iconst 0, 1) := by decide +kernel
theorem dX3_worthiestCourt_3 : decode cX3_worthiestCourt 3 = .ok (.istore_n 3, 1) := by decide +kernel
theorem dX3_worthiestCourt_4 : decode cX3_worthiestCourt 4 = .ok (.iload_n 3, 1) := by decide +kernel
theorem dX3_worthiestCourt_5 : decode cX3_worthiestCourt 5 = .ok (.bipush 6, 2) := by decide +kernel
theorem dX3_worthiestCourt_7 : decode cX3_worthiestCourt 7 = .ok (.if_icmp .ge 45, 3) := by decide +kernel
theorem dX3_worthiestCourt_10 : decode cX3_worthiestCourt 10 = .ok (.aload_n 0, 1) := by decide +kernel
theorem dX3_worthiestCourt_11 : decode cX3_worthiestCourt 11 = .ok (.getfield 18, 3) := by decide +kernel
theorem dX3_worthiestCourt_14 : decode cX3_worthiestCourt 14 = .ok (.iload_n 3, 1) := by decide +kernel
theorem dX3_worthiestCourt_15 : decode cX3_worthiestCourt 15 = .ok (.baload, 1) := by decide +kernel
theorem dX3_worthiestCourt_16 : decode cX3_worthiestCourt 16 = .ok (.ifCond .ne 30, 3) := by decide +kernel
theorem dX3_worthiestCourt_19 : decode cX3_worthiestCourt 19 = .ok (.iload_n 2, 1) := by decide +kernel
theorem dX3_worthiestCourt_20 : decode cX3_worthiestCourt 20 = .ok (.ifCond .lt 24, 3) := by decide +kernel
theorem dX3_worthiestCourt_23 : decode cX3_worthiestCourt 23 = .ok (.aload_n 1, 1) := by decide +kernel
theorem dX3_worthiestCourt_24 : decode cX3_worthiestCourt 24 = .ok (.getfield 50, 3) := by decide +kernel
theorem dX3_worthiestCourt_27 : decode cX3_worthiestCourt 27 = .ok (.iload_n 3, 1) := by decide +kernel
theorem dX3_worthiestCourt_28 : decode cX3_worthiestCourt 28 = .ok (.aaload, 1) := by decide +kernel
theorem dX3_worthiestCourt_29 : decode cX3_worthiestCourt 29 = .ok (.getfield 68, 3) := by decide +kernel
theorem dX3_worthiestCourt_32 : decode cX3_worthiestCourt 32 = .ok (.aload_n 1, 1) := by decide +kernel
theorem dX3_worthiestCourt_33 : decode cX3_worthiestCourt 33 = .ok (.getfield 50, 3) := by decide +kernel
theorem dX3_worthiestCourt_36 : decode cX3_worthiestCourt 36 = .ok (.iload_n 2, 1) := by decide +kernel
theorem dX3_worthiestCourt_37 : decode cX3_worthiestCourt 37 = .ok (.aaload, 1) := by decide +kernel
theorem dX3_worthiestCourt_38 : decode cX3_worthiestCourt 38 = .ok (.getfield 68, 3) := by decide +kernel
theorem dX3_worthiestCourt_41 : decode cX3_worthiestCourt 41 = .ok (.if_icmp .le 5, 3) := by decide +kernel
theorem dX3_worthiestCourt_44 : decode cX3_worthiestCourt 44 = .ok (.iload_n 3, 1) := by decide +kernel
theorem dX3_worthiestCourt_45 : decode cX3_worthiestCourt 45 = .ok (.istore_n 2, 1) := by decide +kernel
theorem dX3_worthiestCourt_46 : decode cX3_worthiestCourt 46 = .ok (.iinc 3 1, 3) := by decide +kernel
theorem dX3_worthiestCourt_49 : decode cX3_worthiestCourt 49 = .ok (.goto (-45), 3) := by decide +kernel
theorem dX3_worthiestCourt_52 : decode cX3_worthiestCourt 52 = .ok (.iload_n 2, 1) := by decide +kernel
theorem dX3_worthiestCourt_53 : decode cX3_worthiestCourt 53 = .ok (.ireturn, 1) := by decide +kernel
theorem dX3_isBusy_0 : decode cX3_isBusy 0 = .ok (.aload_n 1, 1) := by decide +kernel
theorem dX3_isBusy_1 : decode cX3_isBusy 1 = .ok (.iload_n 2, 1) := by decide +kernel
theorem dX3_isBusy_2 : decode cX3_isBusy 2 = .ok (.iload_n 3, 1) := by decide +kernel
theorem dX3_isBusy_3 : decode cX3_isBusy 3 = .ok (.invokestatic 74, 3) := by decide +kernel
theorem dX3_isBusy_6 : decode cX3_isBusy 6 = .ok (.istore 4, 2) := by decide +kernel
theorem dX3_isBusy_8 : decode cX3_isBusy 8 = .ok (.iload 4, 2) := by decide +kernel
theorem dX3_isBusy_10 : decode cX3_isBusy 10 = .ok (.invokestatic 77, 3) := by decide +kernel
theorem dX3_isBusy_13 : decode cX3_isBusy 13 = .ok (.ifCond .eq 17, 3) := by decide +kernel
theorem dX3_isBusy_16 : decode cX3_isBusy 16 = .ok (.aload_n 0, 1) := by decide +kernel
theorem dX3_isBusy_17 : decode cX3_isBusy 17 = .ok (.getfield 15, 3) := by decide +kernel
theorem dX3_isBusy_20 : decode cX3_isBusy 20 = .ok (.iload 4, 2) := by decide +kernel
theorem dX3_isBusy_22 : decode cX3_isBusy 22 = .ok (.baload, 1) := by decide +kernel
theorem dX3_isBusy_23 : decode cX3_isBusy 23 = .ok (.ifCond .eq 7, 3) := by decide +kernel
theorem dX3_isBusy_26 : decode cX3_isBusy 26 = .ok (.iconst 1, 1) := by decide +kernel
theorem dX3_isBusy_27 : decode cX3_isBusy 27 = .ok (.goto 4, 3) := by decide +kernel
theorem dX3_isBusy_30 : decode cX3_isBusy 30 = .ok (.iconst 0, 1) := by decide +kernel
theorem dX3_isBusy_31 : decode cX3_isBusy 31 = .ok (.ireturn, 1) := by decide +kernel
theorem dX3_occupy_0 : decode cX3_occupy 0 = .ok (.iconst 0, 1) := by decide +kernel
theorem dX3_occupy_1 : decode cX3_occupy 1 = .ok (.istore_n 3, 1) := by decide +kernel
theorem dX3_occupy_2 : decode cX3_occupy 2 = .ok (.iload_n 3, 1) := by decide +kernel
theorem dX3_occupy_3 : decode cX3_occupy 3 = .ok (.iconst 2, 1) := by decide +kernel
theorem dX3_occupy_4 : decode cX3_occupy 4 = .ok (.if_icmp .ge 33, 3) := by decide +kernel
theorem dX3_occupy_7 : decode cX3_occupy 7 = .ok (.aload_n 1, 1) := by decide +kernel
theorem dX3_occupy_8 : decode cX3_occupy 8 = .ok (.iload_n 2, 1) := by decide +kernel
theorem dX3_occupy_9 : decode cX3_occupy 9 = .ok (.iload_n 3, 1) := by decide +kernel
theorem dX3_occupy_10 : decode cX3_occupy 10 = .ok (.invokestatic 74, 3) := by decide +kernel
theorem dX3_occupy_13 : decode cX3_occupy 13 = .ok (.istore 4, 2) := by decide +kernel
theorem dX3_occupy_15 : decode cX3_occupy 15 = .ok (.iload 4, 2) := by decide +kernel
theorem dX3_occupy_17 : decode cX3_occupy 17 = .ok (.invokestatic 77, 3) := by decide +kernel
theorem dX3_occupy_20 : decode cX3_occupy 20 = .ok (.ifCond .eq 11, 3) := by decide +kernel
theorem dX3_occupy_23 : decode cX3_occupy 23 = .ok (.aload_n 0, 1) := by decide +kernel
theorem dX3_occupy_24 : decode cX3_occupy 24 = .ok (.getfield 15, 3) := by decide +kernel
theorem dX3_occupy_27 : decode cX3_occupy 27 = .ok (.iload 4, 2) := by decide +kernel
theorem dX3_occupy_29 : decode cX3_occupy 29 = .ok (.iconst 1, 1) := by decide +kernel
theorem dX3_occupy_30 : decode cX3_occupy 30 = .ok (.bastore, 1) := by decide +kernel
theorem dX3_occupy_31 : decode cX3_occupy 31 = .ok (.iinc 3 1, 3) := by decide +kernel
theorem dX3_occupy_34 : decode cX3_occupy 34 = .ok (.goto (-32), 3) := by decide +kernel
theorem dX3_occupy_37 : decode cX3_occupy 37 = .ok (.return_, 1) := by decide +kernel
theorem dX3_playerOf_0 : decode cX3_playerOf 0 = .ok (.aload_n 0, 1) := by decide +kernel
theorem dX3_playerOf_1 : decode cX3_playerOf 1 = .ok (.iload_n 1, 1) := by decide +kernel
theorem dX3_playerOf_2 : decode cX3_playerOf 2 = .ok (.invokevirtual 81, 3) := by decide +kernel
theorem dX3_playerOf_5 : decode cX3_playerOf 5 = .ok (.astore_n 3, 1) := by decide +kernel
theorem dX3_playerOf_6 : decode cX3_playerOf 6 = .ok (.aload_n 3, 1) := by decide +kernel
theorem dX3_playerOf_7 : decode cX3_playerOf 7 = .ok (.ifnonnull 8, 3) := by decide +kernel
theorem dX3_playerOf_10 : decode cX3_playerOf 10 = .ok (.bipush (-2), 2) := by decide +kernel
theorem dX3_playerOf_12 : decode cX3_playerOf 12 = .ok (.goto 12, 3) := by decide +kernel
theorem dX3_playerOf_15 : decode cX3_playerOf 15 = .ok (.aload_n 3, 1) := by decide +kernel
theorem dX3_playerOf_16 : decode cX3_playerOf 16 = .ok (.iload_n 1, 1) := by decide +kernel
theorem dX3_playerOf_17 : decode cX3_playerOf 17 = .ok (.invokestatic 85, 3) := by decide +kernel
theorem dX3_playerOf_20 : decode cX3_playerOf 20 = .ok (.iload_n 2, 1) := by decide +kernel
theorem dX3_playerOf_21 : decode cX3_playerOf 21 = .ok (.invokevirtual 89, 3) := by decide +kernel
theorem dX3_playerOf_24 : decode cX3_playerOf 24 = .ok (.ireturn, 1) := by decide +kernel
theorem dX4_init_0 : decode cX4_init 0 = .ok (.aload_n 0, 1) := by decide +kernel
theorem dX4_init_1 : decode cX4_init 1 = .ok (.invokespecial 3, 3) := by decide +kernel
theorem dX4_init_4 : decode cX4_init 4 = .ok (.aload_n 0, 1) := by decide +kernel
theorem dX4_init_5 : decode cX4_init 5 = .ok (.bipush 16, 2) := by decide +kernel
theorem dX4_init_7 : decode cX4_init 7 = .ok (.newarray .int, 2) := by decide +kernel
theorem dX4_init_9 : decode cX4_init 9 = .ok (.putfield 9, 3) := by decide +kernel
theorem dX4_init_12 : decode cX4_init 12 = .ok (.aload_n 0, 1) := by decide +kernel
theorem dX4_init_13 : decode cX4_init 13 = .ok (.iconst 4, 1) := by decide +kernel
theorem dX4_init_14 : decode cX4_init 14 = .ok (.newarray .int, 2) := by decide +kernel
theorem dX4_init_16 : decode cX4_init 16 = .ok (.putfield 15, 3) := by decide +kernel
theorem dX4_init_19 : decode cX4_init 19 = .ok (.aload_n 0, 1) := by decide +kernel
theorem dX4_init_20 : decode cX4_init 20 = .ok (.bipush 16, 2) := by decide +kernel
theorem dX4_init_22 : decode cX4_init 22 = .ok (.newarray .boolean, 2) := by decide +kernel
theorem dX4_init_24 : decode cX4_init 24 = .ok (.putfield 18, 3) := by decide +kernel
theorem dX4_init_27 : decode cX4_init 27 = .ok (.return_, 1) := by decide +kernel
theorem dX4_arrange_0 : decode cX4_arrange 0 = .ok (.aload_n 0, 1) := by decide +kernel
theorem dX4_arrange_1 : decode cX4_arrange 1 = .ok (.iload_n 3, 1) := by decide +kernel
theorem dX4_arrange_2 : decode cX4_arrange 2 = .ok (.putfield 22, 3) := by decide +kernel
theorem dX4_arrange_5 : decode cX4_arrange 5 = .ok (.iconst 0, 1) := by decide +kernel
theorem dX4_arrange_6 : decode cX4_arrange 6 = .ok (.istore 4, 2) := by decide +kernel
theorem dX4_arrange_8 : decode cX4_arrange 8 = .ok (.iload 4, 2) := by decide +kernel
theorem dX4_arrange_10 : decode cX4_arrange 10 = .ok (.bipush 16, 2) := by decide +kernel
theorem dX4_arrange_12 : decode cX4_arrange 12 = .ok (.if_icmp .ge 26, 3) := by decide +kernel
theorem dX4_arrange_15 : decode cX4_arrange 15 = .ok (.aload_n 1, 1) := by decide +kernel
theorem dX4_arrange_16 : decode cX4_arrange 16 = .ok (.getfield 26, 3) := by decide +kernel
theorem dX4_arrange_19 : decode cX4_arrange 19 = .ok (.iload 4, 2) := by decide +kernel
theorem dX4_arrange_21 : decode cX4_arrange 21 = .ok (.bipush (-2), 2) := by decide +kernel
theorem dX4_arrange_23 : decode cX4_arrange 23 = .ok (.iastore, 1) := by decide +kernel
theorem dX4_arrange_24 : decode cX4_arrange 24 = .ok (.aload_n 0, 1) := by decide +kernel
theorem dX4_arrange_25 : decode cX4_arrange 25 = .ok (.getfield 18, 3) := by decide +kernel
theorem dX4_arrange_28 : decode cX4_arrange 28 = .ok (.iload 4, 2) := by decide +kernel
theorem dX4_arrange_30 : decode cX4_arrange 30 = .ok (.iconst 0, 1) := by decide +kernel
theorem dX4_arrange_31 : decode cX4_arrange 31 = .ok (.bastore, 1) := by decide +kernel
theorem dX4_arrange_32 : decode cX4_arrange 32 = .ok (.iinc 4 1, 3) := by decide +kernel
theorem dX4_arrange_35 : decode cX4_arrange 35 = .ok (.goto (-27), 3) := by decide +kernel
theorem dX4_arrange_38 : decode cX4_arrange 38 = .ok (.aload_n 0, 1) := by decide +kernel
theorem dX4_arrange_39 : decode cX4_arrange 39 = .ok (.aload_n 1, 1) := by decide +kernel
theorem dX4_arrange_40 : decode cX4_arrange 40 = .ok (.invokevirtual 31, 3) := by decide +kernel
theorem dX4_arrange_43 : decode cX4_arrange 43 = .ok (.aload_n 0, 1) := by decide +kernel
theorem dX4_arrange_44 : decode cX4_arrange 44 = .ok (.aload_n 1, 1) := by decide +kernel
theorem dX4_arrange_45 : decode cX4_arrange 45 = .ok (.invokevirtual 35, 3) := by decide +kernel
theorem dX4_arrange_48 : decode cX4_arrange 48 = .ok (.aload_n 0, 1) := by decide +kernel
theorem dX4_arrange_49 : decode cX4_arrange 49 = .ok (.aload_n 1, 1) := by decide +kernel
theorem dX4_arrange_50 : decode cX4_arrange 50 = .ok (.invokevirtual 38, 3) := by decide +kernel
theorem dX4_arrange_53 : decode cX4_arrange 53 = .ok (.aload_n 0, 1) := by decide +kernel
theorem dX4_arrange_54 : decode cX4_arrange 54 = .ok (.aload_n 1, 1) := by decide +kernel
theorem dX4_arrange_55 : decode cX4_arrange 55 = .ok (.aload_n 2, 1) := by decide +kernel
theorem dX4_arrange_56 : decode cX4_arrange 56 = .ok (.invokevirtual 41, 3) := by decide +kernel
theorem dX4_arrange_59 : decode cX4_arrange 59 = .ok (.return_, 1) := by decide +kernel
theorem dX4_numberBelow_0 : decode cX4_numberBelow 0 = .ok (.aload_n 0, 1) := by decide +kernel
theorem dX4_numberBelow_1 : decode cX4_numberBelow 1 = .ok (.ldc 45, 2) := by decide +kernel
theorem dX4_numberBelow_3 : decode cX4_numberBelow 3 = .ok (.aload_n 0, 1) := by decide +kernel
theorem dX4_numberBelow_4 : decode cX4_numberBelow 4 = .ok (.getfield 22, 3) := by decide +kernel
theorem dX4_numberBelow_7 : decode cX4_numberBelow 7 = .ok (.imul, 1) := by decide +kernel
theorem dX4_numberBelow_8 : decode cX4_numberBelow 8 = .ok (.sipush 12345, 3) := by decide +kernel
theorem dX4_numberBelow_11 : decode cX4_numberBelow 11 = .ok (.iadd, 1) := by decide +kernel
theorem dX4_numberBelow_12 : decode cX4_numberBelow 12 = .ok (.putfield 22, 3) := by decide +kernel
theorem dX4_numberBelow_15 : decode cX4_numberBelow 15 = .ok (.iload_n 1, 1) := by decide +kernel
theorem dX4_numberBelow_16 : decode cX4_numberBelow 16 = .ok (.iconst 1, 1) := by decide +kernel
theorem dX4_numberBelow_17 : decode cX4_numberBelow 17 = .ok (.if_icmp .ge 7, 3) := by decide +kernel
theorem dX4_numberBelow_20 : decode cX4_numberBelow 20 = .ok (.iconst 0, 1) := by decide +kernel
theorem dX4_numberBelow_21 : decode cX4_numberBelow 21 = .ok (.goto 12, 3) := by decide +kernel
theorem dX4_numberBelow_24 : decode cX4_numberBelow 24 = .ok (.aload_n 0, 1) := by decide +kernel
theorem dX4_numberBelow_25 : decode cX4_numberBelow 25 = .ok (.getfield 22, 3) := by decide +kernel
theorem dX4_numberBelow_28 : decode cX4_numberBelow 28 = .ok (.bipush 16, 2) := by decide +kernel
theorem dX4_numberBelow_30 : decode cX4_numberBelow 30 = .ok (.iushr, 1) := by decide +kernel
theorem dX4_numberBelow_31 : decode cX4_numberBelow 31 = .ok (.iload_n 1, 1) := by decide +kernel
theorem dX4_numberBelow_32 : decode cX4_numberBelow 32 = .ok (.irem, 1) := by decide +kernel
theorem dX4_numberBelow_33 : decode cX4_numberBelow 33 = .ok (.ireturn, 1) := by decide +kernel
theorem dX4_seatSeeds_0 : decode cX4_seatSeeds 0 = .ok (.aload_n 1, 1) := by decide +kernel
theorem dX4_seatSeeds_1 : decode cX4_seatSeeds 1 = .ok (.getfield 46, 3) := by decide +kernel
theorem dX4_seatSeeds_4 : decode cX4_seatSeeds 4 = .ok (.iconst 2, 1) := by decide +kernel
theorem dX4_seatSeeds_5 : decode cX4_seatSeeds 5 = .ok (.idiv, 1) := by decide +kernel
theorem dX4_seatSeeds_6 : decode cX4_seatSeeds 6 = .ok (.istore_n 2, 1) := by decide +kernel
theorem dX4_seatSeeds_7 : decode cX4_seatSeeds 7 = .ok (.aload_n 0, 1) := by decide +kernel
theorem dX4_seatSeeds_8 : decode cX4_seatSeeds 8 = .ok (.iconst 2, 1) := by decide +kernel
theorem dX4_seatSeeds_9 : decode cX4_seatSeeds 9 = .ok (.invokevirtual 49, 3) := by decide +kernel
theorem dX4_seatSeeds_12 : decode cX4_seatSeeds 12 = .ok (.istore_n 3, 1) := by decide +kernel
theorem dX4_seatSeeds_13 : decode cX4_seatSeeds 13 = .ok (.aload_n 0, 1) := by decide +kernel
theorem dX4_seatSeeds_14 : decode cX4_seatSeeds 14 = .ok (.getfield 15, 3) := by decide +kernel
theorem dX4_seatSeeds_17 : decode cX4_seatSeeds 17 = .ok (.iconst 0, 1) := by decide +kernel
theorem dX4_seatSeeds_18 : decode cX4_seatSeeds 18 = .ok (.iconst 0, 1) := by decide +kernel
theorem dX4_seatSeeds_19 : decode cX4_seatSeeds 19 = .ok (.iastore, 1) := by decide +kernel
theorem dX4_seatSeeds_20 : decode cX4_seatSeeds 20 = .ok (.aload_n 0, 1) := by decide +kernel
theorem dX4_seatSeeds_21 : decode cX4_seatSeeds 21 = .ok (.getfield 15, 3) := by decide +kernel
theorem dX4_seatSeeds_24 : decode cX4_seatSeeds 24 = .ok (.iconst 1, 1) := by decide +kernel
theorem dX4_seatSeeds_25 : decode cX4_seatSeeds 25 = .ok (.aload_n 1, 1) := by decide +kernel
theorem dX4_seatSeeds_26 : decode cX4_seatSeeds 26 = .ok (.getfield 46, 3) := by decide +kernel
theorem dX4_seatSeeds_29 : decode cX4_seatSeeds 29 = .ok (.iconst 1, 1) := by decide +kernel
theorem dX4_seatSeeds_30 : decode cX4_seatSeeds 30 = .ok (.isub, 1) := by decide +kernel
theorem dX4_seatSeeds_31 : decode cX4_seatSeeds 31 = .ok (.iastore, 1) := by decide +kernel
theorem dX4_seatSeeds_32 : decode cX4_seatSeeds 32 = .ok (.aload_n 0, 1) := by decide +kernel
theorem dX4_seatSeeds_33 : decode cX4_seatSeeds 33 = .ok (.getfield 15, 3) := by decide +kernel
theorem dX4_seatSeeds_36 : decode cX4_seatSeeds 36 = .ok (.iconst 2, 1) := by decide +kernel
theorem dX4_seatSeeds_37 : decode cX4_seatSeeds 37 = .ok (.iload_n 2, 1) := by decide +kernel
theorem dX4_seatSeeds_38 : decode cX4_seatSeeds 38 = .ok (.iload_n 3, 1) := by decide +kernel
theorem dX4_seatSeeds_39 : decode cX4_seatSeeds 39 = .ok (.isub, 1) := by decide +kernel
theorem dX4_seatSeeds_40 : decode cX4_seatSeeds 40 = .ok (.iastore, 1) := by decide +kernel
theorem dX4_seatSeeds_41 : decode cX4_seatSeeds 41 = .ok (.aload_n 0, 1) := by decide +kernel
theorem dX4_seatSeeds_42 : decode cX4_seatSeeds 42 = .ok (.getfield 15, 3) := by decide +kernel
theorem dX4_seatSeeds_45 : decode cX4_seatSeeds 45 = .ok (.iconst 3, 1) := by decide +kernel
theorem dX4_seatSeeds_46 : decode cX4_seatSeeds 46 = .ok (.iload_n 2, 1) := by decide +kernel
theorem dX4_seatSeeds_47 : decode cX4_seatSeeds 47 = .ok (.iconst 1, 1) := by decide +kernel
theorem dX4_seatSeeds_48 : decode cX4_seatSeeds 48 = .ok (.isub, 1) := by decide +kernel
theorem dX4_seatSeeds_49 : decode cX4_seatSeeds 49 = .ok (.iload_n 3, 1) := by decide +kernel
theorem dX4_seatSeeds_50 : decode cX4_seatSeeds 50 = .ok (.iadd, 1) := by decide +kernel
theorem dX4_seatSeeds_51 : decode cX4_seatSeeds 51 = .ok (.iastore, 1) := by decide +kernel
theorem dX4_seatSeeds_52 : decode cX4_seatSeeds 52 = .ok (.iconst 0, 1) := by decide +kernel
theorem dX4_seatSeeds_53 : decode cX4_seatSeeds 53 = .ok (.istore 4, 2) := by decide +kernel
theorem dX4_seatSeeds_55 : decode cX4_seatSeeds 55 = .ok (.iload 4, 2) := by decide +kernel
theorem dX4_seatSeeds_57 : decode cX4_seatSeeds 57 = .ok (.aload_n 1, 1) := by decide +kernel
theorem dX4_seatSeeds_58 : decode cX4_seatSeeds 58 = .ok (.getfield 53, 3) := by decide +kernel
theorem dX4_seatSeeds_61 : decode cX4_seatSeeds 61 = .ok (.if_icmp .ge 47, 3) := by decide +kernel
theorem dX4_seatSeeds_64 : decode cX4_seatSeeds 64 = .ok (.iload 4, 2) := by decide +kernel
theorem dX4_seatSeeds_66 : decode cX4_seatSeeds 66 = .ok (.iconst 4, 1) := by decide +kernel
theorem dX4_seatSeeds_67 : decode cX4_seatSeeds 67 = .ok (.if_icmp .ge 41, 3) := by decide +kernel
theorem dX4_seatSeeds_70 : decode cX4_seatSeeds 70 = .ok (.aload_n 1, 1) := by decide +kernel
theorem dX4_seatSeeds_71 : decode cX4_seatSeeds 71 = .ok (.getfield 26, 3) := by decide +kernel
theorem dX4_seatSeeds_74 : decode cX4_seatSeeds 74 = .ok (.aload_n 0, 1) := by decide +kernel
theorem dX4_seatSeeds_75 : decode cX4_seatSeeds 75 = .ok (.getfield 15, 3) := by decide +kernel
theorem dX4_seatSeeds_78 : decode cX4_seatSeeds 78 = .ok (.iload 4, 2) := by decide +kernel
theorem dX4_seatSeeds_80 : decode cX4_seatSeeds 80 = .ok (.iaload, 1) := by decide +kernel
theorem dX4_seatSeeds_81 : decode cX4_seatSeeds 81 = .ok (.aload_n 1, 1) := by decide +kernel
theorem dX4_seatSeeds_82 : decode cX4_seatSeeds 82 = .ok (.getfield 56, 3) := by decide +kernel
theorem dX4_seatSeeds_85 : decode cX4_seatSeeds 85 = .ok (.iload 4, 2) := by decide +kernel
theorem dX4_seatSeeds_87 : decode cX4_seatSeeds 87 = .ok (.iaload, 1) := by decide +kernel
theorem dX4_seatSeeds_88 : decode cX4_seatSeeds 88 = .ok (.iastore, 1) := by decide +kernel
theorem dX4_seatSeeds_89 : decode cX4_seatSeeds 89 = .ok (.aload_n 0, 1) := by decide +kernel
theorem dX4_seatSeeds_90 : decode cX4_seatSeeds 90 = .ok (.getfield 18, 3) := by decide +kernel
theorem dX4_seatSeeds_93 : decode cX4_seatSeeds 93 = .ok (.aload_n 0, 1) := by decide +kernel
theorem dX4_seatSeeds_94 : decode cX4_seatSeeds 94 = .ok (.getfield 15, 3) := by decide +kernel
theorem dX4_seatSeeds_97 : decode cX4_seatSeeds 97 = .ok (.iload 4, 2) := by decide +kernel
theorem dX4_seatSeeds_99 : decode cX4_seatSeeds 99 = .ok (.iaload, 1) := by decide +kernel
theorem dX4_seatSeeds_100 : decode cX4_seatSeeds 100 = .ok (.iconst 1, 1) := by decide +kernel
theorem dX4_seatSeeds_101 : decode cX4_seatSeeds 101 = .ok (.bastore, 1) := by decide +kernel
theorem dX4_seatSeeds_102 : decode cX4_seatSeeds 102 = .ok (.iinc 4 1, 3) := by decide +kernel
theorem dX4_seatSeeds_105 : decode cX4_seatSeeds 105 = .ok (.goto (-50), 3) := by decide +kernel
theorem dX4_seatSeeds_108 : decode cX4_seatSeeds 108 = .ok (.return_, 1) := by decide +kernel
theorem dX4_giveByes_0 : decode cX4_giveByes 0 = .ok (.aload_n 1, 1) := by decide +kernel
theorem dX4_giveByes_1 : decode cX4_giveByes 1 = .ok (.getfield 46, 3) := by decide +kernel
theorem dX4_giveByes_4 : decode cX4_giveByes 4 = .ok (.aload_n 1, 1) := by decide +kernel
theorem dX4_giveByes_5 : decode cX4_giveByes 5 = .ok (.getfield 59, 3) := by decide +kernel
theorem dX4_giveByes_8 : decode cX4_giveByes 8 = .ok (.isub, 1) := by decide +kernel
theorem dX4_giveByes_9 : decode cX4_giveByes 9 = .ok (.istore_n 2, 1) := by decide +kernel
theorem dX4_giveByes_10 : decode cX4_giveByes 10 = .ok (.iconst 0, 1) := by decide +kernel
theorem dX4_giveByes_11 : decode cX4_giveByes 11 = .ok (.istore_n 3, 1) := by decide +kernel
theorem dX4_giveByes_12 : decode cX4_giveByes 12 = .ok (.iload_n 3, 1) := by decide +kernel
theorem dX4_giveByes_13 : decode cX4_giveByes 13 = .ok (.aload_n 1, 1) := by decide +kernel
theorem dX4_giveByes_14 : decode cX4_giveByes 14 = .ok (.getfield 53, 3) := by decide +kernel
theorem dX4_giveByes_17 : decode cX4_giveByes 17 = .ok (.if_icmp .ge 51, 3) := by decide +kernel
theorem dX4_giveByes_20 : decode cX4_giveByes 20 = .ok (.iload_n 3, 1) := by decide +kernel
theorem dX4_giveByes_21 : decode cX4_giveByes 21 = .ok (.iconst 4, 1) := by decide +kernel
theorem dX4_giveByes_22 : decode cX4_giveByes 22 = .ok (.if_icmp .ge 46, 3) := by decide +kernel
theorem dX4_giveByes_25 : decode cX4_giveByes 25 = .ok (.iload_n 2, 1) := by decide +kernel
theorem dX4_giveByes_26 : decode cX4_giveByes 26 = .ok (.ifCond .le 42, 3) := by decide +kernel
theorem dX4_giveByes_29 : decode cX4_giveByes 29 = .ok (.aload_n 0, 1) := by decide +kernel
theorem dX4_giveByes_30 : decode cX4_giveByes 30 = .ok (.getfield 15, 3) := by decide +kernel
theorem dX4_giveByes_33 : decode cX4_giveByes 33 = .ok (.iload_n 3, 1) := by decide +kernel
theorem dX4_giveByes_34 : decode cX4_giveByes 34 = .ok (.iaload, 1) := by decide +kernel
theorem dX4_giveByes_35 : decode cX4_giveByes 35 = .ok (.iconst 1, 1) := by decide +kernel
theorem dX4_giveByes_36 : decode cX4_giveByes 36 = .ok (.ixor, 1) := by decide +kernel
theorem dX4_giveByes_37 : decode cX4_giveByes 37 = .ok (.istore 4, 2) := by decide +kernel
theorem dX4_giveByes_39 : decode cX4_giveByes 39 = .ok (.aload_n 1, 1) := by decide +kernel
theorem dX4_giveByes_40 : decode cX4_giveByes 40 = .ok (.getfield 26, 3) := by decide +kernel
theorem dX4_giveByes_43 : decode cX4_giveByes 43 = .ok (.iload 4, 2) := by decide +kernel
theorem dX4_giveByes_45 : decode cX4_giveByes 45 = .ok (.iaload, 1) := by decide +kernel
theorem dX4_giveByes_46 : decode cX4_giveByes 46 = .ok (.bipush (-2), 2) := by decide +kernel
theorem dX4_giveByes_48 : decode cX4_giveByes 48 = .ok (.if_icmp .ne 14, 3) := by decide +kernel
theorem dX4_giveByes_51 : decode cX4_giveByes 51 = .ok (.aload_n 1, 1) := by decide +kernel
theorem dX4_giveByes_52 : decode cX4_giveByes 52 = .ok (.getfield 26, 3) := by decide +kernel
theorem dX4_giveByes_55 : decode cX4_giveByes 55 = .ok (.iload 4, 2) := by decide +kernel
theorem dX4_giveByes_57 : decode cX4_giveByes 57 = .ok (.iconst (-1), 1) := by decide +kernel
theorem dX4_giveByes_58 : decode cX4_giveByes 58 = .ok (.iastore, 1) := by decide +kernel
theorem dX4_giveByes_59 : decode cX4_giveByes 59 = .ok (.iinc 2 (-1), 3) := by decide +kernel
theorem dX4_giveByes_62 : decode cX4_giveByes 62 = .ok (.iinc 3 1, 3) := by decide +kernel
theorem dX4_giveByes_65 : decode cX4_giveByes 65 = .ok (.goto (-53), 3) := by decide +kernel
theorem dX4_giveByes_68 : decode cX4_giveByes 68 = .ok (.iconst 0, 1) := by decide +kernel
theorem dX4_giveByes_69 : decode cX4_giveByes 69 = .ok (.istore_n 3, 1) := by decide +kernel
theorem dX4_giveByes_70 : decode cX4_giveByes 70 = .ok (.iload_n 3, 1) := by decide +kernel
theorem dX4_giveByes_71 : decode cX4_giveByes 71 = .ok (.iconst 1, 1) := by decide +kernel
theorem dX4_giveByes_72 : decode cX4_giveByes 72 = .ok (.iadd, 1) := by decide +kernel
theorem dX4_giveByes_73 : decode cX4_giveByes 73 = .ok (.aload_n 1, 1) := by decide +kernel
theorem dX4_giveByes_74 : decode cX4_giveByes 74 = .ok (.getfield 46, 3) := by decide +kernel
theorem dX4_giveByes_77 : decode cX4_giveByes 77 = .ok (.if_icmp .ge 49, 3) := by decide +kernel
theorem dX4_giveByes_80 : decode cX4_giveByes 80 = .ok (.iload_n 2, 1) := by decide +kernel
theorem dX4_giveByes_81 : decode cX4_giveByes 81 = .ok (.ifCond .le 45, 3) := by decide +kernel
theorem dX4_giveByes_84 : decode cX4_giveByes 84 = .ok (.aload_n 1, 1) := by decide +kernel
theorem dX4_giveByes_85 : decode cX4_giveByes 85 = .ok (.getfield 26, 3) := by decide +kernel
theorem dX4_giveByes_88 : decode cX4_giveByes 88 = .ok (.iload_n 3, 1) := by decide +kernel
theorem dX4_giveByes_89 : decode cX4_giveByes 89 = .ok (.iaload, 1) := by decide +kernel
theorem dX4_giveByes_90 : decode cX4_giveByes 90 = .ok (.bipush (-2), 2) := by decide +kernel
theorem dX4_giveByes_92 : decode cX4_giveByes 92 = .ok (.if_icmp .ne 28, 3) := by decide +kernel
theorem dX4_giveByes_95 : decode cX4_giveByes 95 = .ok (.aload_n 1, 1) := by decide +kernel
theorem dX4_giveByes_96 : decode cX4_giveByes 96 = .ok (.getfield 26, 3) := by decide +kernel
theorem dX4_giveByes_99 : decode cX4_giveByes 99 = .ok (.iload_n 3, 1) := by decide +kernel
theorem dX4_giveByes_100 : decode cX4_giveByes 100 = .ok (.iconst 1, 1) := by decide +kernel
theorem dX4_giveByes_101 : decode cX4_giveByes 101 = .ok (.iadd, 1) := by decide +kernel
theorem dX4_giveByes_102 : decode cX4_giveByes 102 = .ok (.iaload, 1) := by decide +kernel
theorem dX4_giveByes_103 : decode cX4_giveByes 103 = .ok (.bipush (-2), 2) := by decide +kernel
theorem dX4_giveByes_105 : decode cX4_giveByes 105 = .ok (.if_icmp .ne 15, 3) := by decide +kernel
theorem dX4_giveByes_108 : decode cX4_giveByes 108 = .ok (.aload_n 1, 1) := by decide +kernel
theorem dX4_giveByes_109 : decode cX4_giveByes 109 = .ok (.getfield 26, 3) := by decide +kernel
theorem dX4_giveByes_112 : decode cX4_giveByes 112 = .ok (.iload_n 3, 1) := by decide +kernel
theorem dX4_giveByes_113 : decode cX4_giveByes 113 = .ok (.iconst 1, 1) := by decide +kernel
theorem dX4_giveByes_114 : decode cX4_giveByes 114 = .ok (.iadd, 1) := by decide +kernel
theorem dX4_giveByes_115 : decode cX4_giveByes 115 = .ok (.iconst (-1), 1) := by decide +kernel
theorem dX4_giveByes_116 : decode cX4_giveByes 116 = .ok (.iastore, 1) := by decide +kernel
theorem dX4_giveByes_117 : decode cX4_giveByes 117 = .ok (.iinc 2 (-1), 3) := by decide +kernel
theorem dX4_giveByes_120 : decode cX4_giveByes 120 = .ok (.iinc 3 2, 3) := by decide +kernel
theorem dX4_giveByes_123 : decode cX4_giveByes 123 = .ok (.goto (-53), 3) := by decide +kernel
theorem dX4_giveByes_126 : decode cX4_giveByes 126 = .ok (.return_, 1) := by decide +kernel
theorem dX4_seatOthers_0 : decode cX4_seatOthers 0 = .ok (.aload_n 1, 1) := by decide +kernel
theorem dX4_seatOthers_1 : decode cX4_seatOthers 1 = .ok (.getfield 59, 3) := by decide +kernel
theorem dX4_seatOthers_4 : decode cX4_seatOthers 4 = .ok (.aload_n 1, 1) := by decide +kernel
theorem dX4_seatOthers_5 : decode cX4_seatOthers 5 = .ok (.getfield 53, 3) := by decide +kernel
theorem dX4_seatOthers_8 : decode cX4_seatOthers 8 = .ok (.isub, 1) := by decide +kernel
theorem dX4_seatOthers_9 : decode cX4_seatOthers 9 = .ok (.istore_n 2, 1) := by decide +kernel
theorem dX4_seatOthers_10 : decode cX4_seatOthers 10 = .ok (.iconst 0, 1) := by decide +kernel
theorem dX4_seatOthers_11 : decode cX4_seatOthers 11 = .ok (.istore_n 3, 1) := by decide +kernel
theorem dX4_seatOthers_12 : decode cX4_seatOthers 12 = .ok (.iload_n 3, 1) := by decide +kernel
theorem dX4_seatOthers_13 : decode cX4_seatOthers 13 = .ok (.iload_n 2, 1) := by decide +kernel
theorem dX4_seatOthers_14 : decode cX4_seatOthers 14 = .ok (.if_icmp .ge 26, 3) := by decide +kernel
theorem dX4_seatOthers_17 : decode cX4_seatOthers 17 = .ok (.aload_n 0, 1) := by decide +kernel
theorem dX4_seatOthers_18 : decode cX4_seatOthers 18 = .ok (.getfield 9, 3) := by decide +kernel
theorem dX4_seatOthers_21 : decode cX4_seatOthers 21 = .ok (.iload_n 3, 1) := by decide +kernel
theorem dX4_seatOthers_22 : decode cX4_seatOthers 22 = .ok (.aload_n 1, 1) := by decide +kernel
theorem dX4_seatOthers_23 : decode cX4_seatOthers 23 = .ok (.getfield 56, 3) := by decide +kernel
theorem dX4_seatOthers_26 : decode cX4_seatOthers 26 = .ok (.aload_n 1, 1) := by decide +kernel
theorem dX4_seatOthers_27 : decode cX4_seatOthers 27 = .ok (.getfield 53, 3) := by decide +kernel
theorem dX4_seatOthers_30 : decode cX4_seatOthers 30 = .ok (.iload_n 3, 1) := by decide +kernel
theorem dX4_seatOthers_31 : decode cX4_seatOthers 31 = .ok (.iadd, 1) := by decide +kernel
theorem dX4_seatOthers_32 : decode cX4_seatOthers 32 = .ok (.iaload, 1) := by decide +kernel
theorem dX4_seatOthers_33 : decode cX4_seatOthers 33 = .ok (.iastore, 1) := by decide +kernel
theorem dX4_seatOthers_34 : decode cX4_seatOthers 34 = .ok (.iinc 3 1, 3) := by decide +kernel
theorem dX4_seatOthers_37 : decode cX4_seatOthers 37 = .ok (.goto (-25), 3) := by decide +kernel
theorem dX4_seatOthers_40 : decode cX4_seatOthers 40 = .ok (.iload_n 2, 1) := by decide +kernel
theorem dX4_seatOthers_41 : decode cX4_seatOthers 41 = .ok (.iconst 1, 1) := by decide +kernel
theorem dX4_seatOthers_42 : decode cX4_seatOthers 42 = .ok (.isub, 1) := by decide +kernel
theorem dX4_seatOthers_43 : decode cX4_seatOthers 43 = .ok (.istore_n 3, 1) := by decide +kernel
theorem dX4_seatOthers_44 : decode cX4_seatOthers 44 = .ok (.iload_n 3, 1) := by decide +kernel
theorem dX4_seatOthers_45 : decode cX4_seatOthers 45 = .ok (.iconst 1, 1) := by decide +kernel
theorem dX4_seatOthers_46 : decode cX4_seatOthers 46 = .ok (.if_icmp .lt 48, 3) := by decide +kernel
theorem dX4_seatOthers_49 : decode cX4_seatOthers 49 = .ok (.aload_n 0, 1) := by decide +kernel
theorem dX4_seatOthers_50 : decode cX4_seatOthers 50 = .ok (.iload_n 3, 1) := by decide +kernel
theorem dX4_seatOthers_51 : decode cX4_seatOthers 51 = .ok (.iconst 1, 1) := by decide +kernel
theorem dX4_seatOthers_52 : decode cX4_seatOthers 52 = .ok (.iadd, 1) := by decide +kernel
theorem dX4_seatOthers_53 : decode cX4_seatOthers 53 = .ok (.invokevirtual 49, 3) := by decide +kernel
theorem dX4_seatOthers_56 : decode cX4_seatOthers 56 = .ok (.istore 4, 2) := by decide +kernel
theorem dX4_seatOthers_58 : decode cX4_seatOthers 58 = .ok (.aload_n 0, 1) := by decide +kernel
theorem dX4_seatOthers_59 : decode cX4_seatOthers 59 = .ok (.getfield 9, 3) := by decide +kernel
theorem dX4_seatOthers_62 : decode cX4_seatOthers 62 = .ok (.iload_n 3, 1) := by decide +kernel
theorem dX4_seatOthers_63 : decode cX4_seatOthers 63 = .ok (.iaload, 1) := by decide +kernel
theorem dX4_seatOthers_64 : decode cX4_seatOthers 64 = .ok (.istore 5, 2) := by decide +kernel
theorem dX4_seatOthers_66 : decode cX4_seatOthers 66 = .ok (.aload_n 0, 1) := by decide +kernel
theorem dX4_seatOthers_67 : decode cX4_seatOthers 67 = .ok (.getfield 9, 3) := by decide +kernel
theorem dX4_seatOthers_70 : decode cX4_seatOthers 70 = .ok (.iload_n 3, 1) := by decide +kernel
theorem dX4_seatOthers_71 : decode cX4_seatOthers 71 = .ok (.aload_n 0, 1) := by decide +kernel
theorem dX4_seatOthers_72 : decode cX4_seatOthers 72 = .ok (.getfield 9, 3) := by decide +kernel
theorem dX4_seatOthers_75 : decode cX4_seatOthers 75 = .ok (.iload 4, 2) := by decide +kernel
theorem dX4_seatOthers_77 : decode cX4_seatOthers 77 = .ok (.iaload, 1) := by decide +kernel
theorem dX4_seatOthers_78 : decode cX4_seatOthers 78 = .ok (.iastore, 1) := by decide +kernel
theorem dX4_seatOthers_79 : decode cX4_seatOthers 79 = .ok (.aload_n 0, 1) := by decide +kernel
theorem dX4_seatOthers_80 : decode cX4_seatOthers 80 = .ok (.getfield 9, 3) := by decide +kernel
theorem dX4_seatOthers_83 : decode cX4_seatOthers 83 = .ok (.iload 4, 2) := by decide +kernel
theorem dX4_seatOthers_85 : decode cX4_seatOthers 85 = .ok (.iload 5, 2) := by decide +kernel
theorem dX4_seatOthers_87 : decode cX4_seatOthers 87 = .ok (.iastore, 1) := by decide +kernel
theorem dX4_seatOthers_88 : decode cX4_seatOthers 88 = .ok (.iinc 3 (-1), 3) := by decide +kernel
theorem dX4_seatOthers_91 : decode cX4_seatOthers 91 = .ok (.goto (-47), 3) := by decide +kernel
theorem dX4_seatOthers_94 : decode cX4_seatOthers 94 = .ok (.iconst 0, 1) := by decide +kernel
theorem dX4_seatOthers_95 : decode cX4_seatOthers 95 = .ok (.istore_n 3, 1) := by decide +kernel
theorem dX4_seatOthers_96 : decode cX4_seatOthers 96 = .ok (.iconst 0, 1) := by decide +kernel
theorem dX4_seatOthers_97 : decode cX4_seatOthers 97 = .ok (.istore 4, 2) := by decide +kernel
theorem dX4_seatOthers_99 : decode cX4_seatOthers 99 = .ok (.iload 4, 2) := by decide +kernel
theorem dX4_seatOthers_101 : decode cX4_seatOthers 101 = .ok (.aload_n 1, 1) := by decide +kernel
theorem dX4_seatOthers_102 : decode cX4_seatOthers 102 = .ok (.getfield 46, 3) := by decide +kernel
theorem dX4_seatOthers_105 : decode cX4_seatOthers 105 = .ok (.if_icmp .ge 42, 3) := by decide +kernel
theorem dX4_seatOthers_108 : decode cX4_seatOthers 108 = .ok (.iload_n 3, 1) := by decide +kernel
theorem dX4_seatOthers_109 : decode cX4_seatOthers 109 = .ok (.iload_n 2, 1) := by decide +kernel
theorem dX4_seatOthers_110 : decode cX4_seatOthers 110 = .ok (.if_icmp .ge 37, 3) := by decide +kernel
theorem dX4_seatOthers_113 : decode cX4_seatOthers 113 = .ok (.aload_n 1, 1) := by decide +kernel
theorem dX4_seatOthers_114 : decode cX4_seatOthers 114 = .ok (.getfield 26, 3) := by decide +kernel
theorem dX4_seatOthers_117 : decode cX4_seatOthers 117 = .ok (.iload 4, 2) := by decide +kernel
theorem dX4_seatOthers_119 : decode cX4_seatOthers 119 = .ok (.iaload, 1) := by decide +kernel
theorem dX4_seatOthers_120 : decode cX4_seatOthers 120 = .ok (.bipush (-2), 2) := by decide +kernel
theorem dX4_seatOthers_122 : decode cX4_seatOthers 122 = .ok (.if_icmp .ne 19, 3) := by decide +kernel
theorem dX4_seatOthers_125 : decode cX4_seatOthers 125 = .ok (.aload_n 1, 1) := by decide +kernel
theorem dX4_seatOthers_126 : decode cX4_seatOthers 126 = .ok (.getfield 26, 3) := by decide +kernel
theorem dX4_seatOthers_129 : decode cX4_seatOthers 129 = .ok (.iload 4, 2) := by decide +kernel
theorem dX4_seatOthers_131 : decode cX4_seatOthers 131 = .ok (.aload_n 0, 1) := by decide +kernel
theorem dX4_seatOthers_132 : decode cX4_seatOthers 132 = .ok (.getfield 9, 3) := by decide +kernel
theorem dX4_seatOthers_135 : decode cX4_seatOthers 135 = .ok (.iload_n 3, 1) := by decide +kernel
theorem dX4_seatOthers_136 : decode cX4_seatOthers 136 = .ok (.iaload, 1) := by decide +kernel
theorem dX4_seatOthers_137 : decode cX4_seatOthers 137 = .ok (.iastore, 1) := by decide +kernel
theorem dX4_seatOthers_138 : decode cX4_seatOthers 138 = .ok (.iinc 3 1, 3) := by decide +kernel
theorem dX4_seatOthers_141 : decode cX4_seatOthers 141 = .ok (.iinc 4 1, 3) := by decide +kernel
theorem dX4_seatOthers_144 : decode cX4_seatOthers 144 = .ok (.goto (-45), 3) := by decide +kernel
theorem dX4_seatOthers_147 : decode cX4_seatOthers 147 = .ok (.return_, 1) := by decide +kernel
theorem dX4_partLands_0 : decode cX4_partLands 0 = .ok (.iconst 0, 1) := by decide +kernel
theorem dX4_partLands_1 : decode cX4_partLands 1 = .ok (.istore_n 3, 1) := by decide +kernel
theorem dX4_partLands_2 : decode cX4_partLands 2 = .ok (.iload_n 3, 1) := by decide +kernel
theorem dX4_partLands_3 : decode cX4_partLands 3 = .ok (.iconst 1, 1) := by decide +kernel
theorem dX4_partLands_4 : decode cX4_partLands 4 = .ok (.iadd, 1) := by decide +kernel
theorem dX4_partLands_5 : decode cX4_partLands 5 = .ok (.aload_n 1, 1) := by decide +kernel
theorem dX4_partLands_6 : decode cX4_partLands 6 = .ok (.getfield 46, 3) := by decide +kernel
theorem dX4_partLands_9 : decode cX4_partLands 9 = .ok (.if_icmp .ge 72, 3) := by decide +kernel
theorem dX4_partLands_12 : decode cX4_partLands 12 = .ok (.aload_n 2, 1) := by decide +kernel
theorem dX4_partLands_13 : decode cX4_partLands 13 = .ok (.aload_n 1, 1) := by decide +kernel
theorem dX4_partLands_14 : decode cX4_partLands 14 = .ok (.getfield 26, 3) := by decide +kernel
theorem dX4_partLands_17 : decode cX4_partLands 17 = .ok (.iload_n 3, 1) := by decide +kernel
theorem dX4_partLands_18 : decode cX4_partLands 18 = .ok (.iaload, 1) := by decide +kernel
theorem dX4_partLands_19 : decode cX4_partLands 19 = .ok (.aload_n 1, 1) := by decide +kernel
theorem dX4_partLands_20 : decode cX4_partLands 20 = .ok (.getfield 26, 3) := by decide +kernel
theorem dX4_partLands_23 : decode cX4_partLands 23 = .ok (.iload_n 3, 1) := by decide +kernel
theorem dX4_partLands_24 : decode cX4_partLands 24 = .ok (.iconst 1, 1) := by decide +kernel
theorem dX4_partLands_25 : decode cX4_partLands 25 = .ok (.iadd, 1) := by decide +kernel
theorem dX4_partLands_26 : decode cX4_partLands 26 = .ok (.iaload, 1) := by decide +kernel
theorem dX4_partLands_27 : decode cX4_partLands 27 = .ok (.invokestatic 62, 3) := by decide +kernel
theorem dX4_partLands_30 : decode cX4_partLands 30 = .ok (.ifCond .ne 6, 3) := by decide +kernel
theorem dX4_partLands_33 : decode cX4_partLands 33 = .ok (.goto 42, 3) := by decide +kernel
theorem dX4_partLands_36 : decode cX4_partLands 36 = .ok (.aload_n 0, 1) := by decide +kernel
theorem dX4_partLands_37 : decode cX4_partLands 37 = .ok (.getfield 18, 3) := by decide +kernel
theorem dX4_partLands_40 : decode cX4_partLands 40 = .ok (.iload_n 3, 1) := by decide +kernel
theorem dX4_partLands_41 : decode cX4_partLands 41 = .ok (.iconst 1, 1) := by decide +kernel
theorem dX4_partLands_42 : decode cX4_partLands 42 = .ok (.iadd, 1) := by decide +kernel
theorem dX4_partLands_43 : decode cX4_partLands 43 = .ok (.baload, 1) := by decide +kernel
theorem dX4_partLands_44 : decode cX4_partLands 44 = .ok (.ifCond .ne 15, 3) := by decide +kernel
theorem dX4_partLands_47 : decode cX4_partLands 47 = .ok (.aload_n 0, 1) := by decide +kernel
theorem dX4_partLands_48 : decode cX4_partLands 48 = .ok (.aload_n 1, 1) := by decide +kernel
theorem dX4_partLands_49 : decode cX4_partLands 49 = .ok (.aload_n 2, 1) := by decide +kernel
theorem dX4_partLands_50 : decode cX4_partLands 50 = .ok (.iload_n 3, 1) := by decide +kernel
theorem dX4_partLands_51 : decode cX4_partLands 51 = .ok (.iconst 1, 1) := by decide +kernel
theorem dX4_partLands_52 : decode cX4_partLands 52 = .ok (.iadd, 1) := by decide +kernel
theorem dX4_partLands_53 : decode cX4_partLands 53 = .ok (.invokevirtual 66, 3) := by decide +kernel
theorem dX4_partLands_56 : decode cX4_partLands 56 = .ok (.goto 19, 3) := by decide +kernel
theorem dX4_partLands_59 : decode cX4_partLands 59 = .ok (.aload_n 0, 1) := by decide +kernel
theorem dX4_partLands_60 : decode cX4_partLands 60 = .ok (.getfield 18, 3) := by decide +kernel
theorem dX4_partLands_63 : decode cX4_partLands 63 = .ok (.iload_n 3, 1) := by decide +kernel
theorem dX4_partLands_64 : decode cX4_partLands 64 = .ok (.baload, 1) := by decide +kernel
theorem dX4_partLands_65 : decode cX4_partLands 65 = .ok (.ifCond .ne 10, 3) := by decide +kernel
theorem dX4_partLands_68 : decode cX4_partLands 68 = .ok (.aload_n 0, 1) := by decide +kernel
theorem dX4_partLands_69 : decode cX4_partLands 69 = .ok (.aload_n 1, 1) := by decide +kernel
theorem dX4_partLands_70 : decode cX4_partLands 70 = .ok (.aload_n 2, 1) := by decide +kernel
theorem dX4_partLands_71 : decode cX4_partLands 71 = .ok (.iload_n 3, 1) := by decide +kernel
theorem dX4_partLands_72 : decode cX4_partLands 72 = .ok (.invokevirtual 66, 3) := by decide +kernel
theorem dX4_partLands_75 : decode cX4_partLands 75 = .ok (.iinc 3 2, 3) := by decide +kernel
theorem dX4_partLands_78 : decode cX4_partLands 78 = .ok (.goto (-76), 3) := by decide +kernel
theorem dX4_partLands_81 : decode cX4_partLands 81 = .ok (.return_, 1) := by decide +kernel
theorem dX4_moveAway_0 : decode cX4_moveAway 0 = .ok (.iload_n 3, 1) := by decide +kernel
theorem dX4_moveAway_1 : decode cX4_moveAway 1 = .ok (.iconst 1, 1) := by decide +kernel
theorem dX4_moveAway_2 : decode cX4_moveAway 2 = .ok (.ior, 1) := by decide +kernel
theorem dX4_moveAway_3 : decode cX4_moveAway 3 = .ok (.iconst 1, 1) := by decide +kernel
theorem dX4_moveAway_4 : decode cX4_moveAway 4 = .ok (.iadd, 1) := by decide +kernel
theorem dX4_moveAway_5 : decode cX4_moveAway 5 = .ok (.istore 4, 2) := by decide +kernel
theorem dX4_moveAway_7 : decode cX4_moveAway 7 = .ok (.iload 4, 2) := by decide +kernel
theorem dX4_moveAway_9 : decode cX4_moveAway 9 = .ok (.aload_n 1, 1) := by decide +kernel
theorem dX4_moveAway_10 : decode cX4_moveAway 10 = .ok (.getfield 46, 3) := by decide +kernel
theorem dX4_moveAway_13 : decode cX4_moveAway 13 = .ok (.if_icmp .ge 52, 3) := by decide +kernel
theorem dX4_moveAway_16 : decode cX4_moveAway 16 = .ok (.aload_n 0, 1) := by decide +kernel
theorem dX4_moveAway_17 : decode cX4_moveAway 17 = .ok (.aload_n 1, 1) := by decide +kernel
theorem dX4_moveAway_18 : decode cX4_moveAway 18 = .ok (.aload_n 2, 1) := by decide +kernel
theorem dX4_moveAway_19 : decode cX4_moveAway 19 = .ok (.iload_n 3, 1) := by decide +kernel
theorem dX4_moveAway_20 : decode cX4_moveAway 20 = .ok (.iload 4, 2) := by decide +kernel
theorem dX4_moveAway_22 : decode cX4_moveAway 22 = .ok (.invokevirtual 70, 3) := by decide +kernel
theorem dX4_moveAway_25 : decode cX4_moveAway 25 = .ok (.ifCond .eq 34, 3) := by decide +kernel
theorem dX4_moveAway_28 : decode cX4_moveAway 28 = .ok (.aload_n 1, 1) := by decide +kernel
theorem dX4_moveAway_29 : decode cX4_moveAway 29 = .ok (.getfield 26, 3) := by decide +kernel
theorem dX4_moveAway_32 : decode cX4_moveAway 32 = .ok (.iload_n 3, 1) := by decide +kernel
theorem dX4_moveAway_33 : decode cX4_moveAway 33 = .ok (.iaload, 1) := by decide +kernel
theorem dX4_moveAway_34 : decode cX4_moveAway 34 = .ok (.istore 5, 2) := by decide +kernel
theorem dX4_moveAway_36 : decode cX4_moveAway 36 = .ok (.aload_n 1, 1) := by decide +kernel
theorem dX4_moveAway_37 : decode cX4_moveAway 37 = .ok (.getfield 26, 3) := by decide +kernel
theorem dX4_moveAway_40 : decode cX4_moveAway 40 = .ok (.iload_n 3, 1) := by decide +kernel
theorem dX4_moveAway_41 : decode cX4_moveAway 41 = .ok (.aload_n 1, 1) := by decide +kernel
theorem dX4_moveAway_42 : decode cX4_moveAway 42 = .ok (.getfield 26, 3) := by decide +kernel
theorem dX4_moveAway_45 : decode cX4_moveAway 45 = .ok (.iload 4, 2) := by decide +kernel
theorem dX4_moveAway_47 : decode cX4_moveAway 47 = .ok (.iaload, 1) := by decide +kernel
theorem dX4_moveAway_48 : decode cX4_moveAway 48 = .ok (.iastore, 1) := by decide +kernel
theorem dX4_moveAway_49 : decode cX4_moveAway 49 = .ok (.aload_n 1, 1) := by decide +kernel
theorem dX4_moveAway_50 : decode cX4_moveAway 50 = .ok (.getfield 26, 3) := by decide +kernel
theorem dX4_moveAway_53 : decode cX4_moveAway 53 = .ok (.iload 4, 2) := by decide +kernel
theorem dX4_moveAway_55 : decode cX4_moveAway 55 = .ok (.iload 5, 2) := by decide +kernel
theorem dX4_moveAway_57 : decode cX4_moveAway 57 = .ok (.iastore, 1) := by decide +kernel
theorem dX4_moveAway_58 : decode cX4_moveAway 58 = .ok (.return_, 1) := by decide +kernel
theorem dX4_moveAway_59 : decode cX4_moveAway 59 = .ok (.iinc 4 1, 3) := by decide +kernel
theorem dX4_moveAway_62 : decode cX4_moveAway 62 = .ok (.goto (-55), 3) := by decide +kernel
theorem dX4_moveAway_65 : decode cX4_moveAway 65 = .ok (.return_, 1) := by decide +kernel
theorem dX4_mayChange_0 : decode cX4_mayChange 0 = .ok (.aload_n 1, 1) := by decide +kernel
theorem dX4_mayChange_1 : decode cX4_mayChange 1 = .ok (.getfield 26, 3) := by decide +kernel
theorem dX4_mayChange_4 : decode cX4_mayChange 4 = .ok (.iload 4, 2) := by decide +kernel
theorem dX4_mayChange_6 : decode cX4_mayChange 6 = .ok (.iaload, 1) := by decide +kernel
theorem dX4_mayChange_7 : decode cX4_mayChange 7 = .ok (.ifCond .lt 61, 3) := by decide +kernel
theorem dX4_mayChange_10 : decode cX4_mayChange 10 = .ok (.aload_n 0, 1) := by decide +kernel
theorem dX4_mayChange_11 : decode cX4_mayChange 11 = .ok (.getfield 18, 3) := by decide +kernel
theorem dX4_mayChange_14 : decode cX4_mayChange 14 = .ok (.iload 4, 2) := by decide +kernel
theorem dX4_mayChange_16 : decode cX4_mayChange 16 = .ok (.baload, 1) := by decide +kernel
theorem dX4_mayChange_17 : decode cX4_mayChange 17 = .ok (.ifCond .ne 51, 3) := by decide +kernel
theorem dX4_mayChange_20 : decode cX4_mayChange 20 = .ok (.aload_n 2, 1) := by decide +kernel
theorem dX4_mayChange_21 : decode cX4_mayChange 21 = .ok (.aload_n 1, 1) := by decide +kernel
theorem dX4_mayChange_22 : decode cX4_mayChange 22 = .ok (.getfield 26, 3) := by decide +kernel
theorem dX4_mayChange_25 : decode cX4_mayChange 25 = .ok (.iload_n 3, 1) := by decide +kernel
theorem dX4_mayChange_26 : decode cX4_mayChange 26 = .ok (.iconst 1, 1) := by decide +kernel
theorem dX4_mayChange_27 : decode cX4_mayChange 27 = .ok (.ixor, 1) := by decide +kernel
theorem dX4_mayChange_28 : decode cX4_mayChange 28 = .ok (.iaload, 1) := by decide +kernel
theorem dX4_mayChange_29 : decode cX4_mayChange 29 = .ok (.aload_n 1, 1) := by decide +kernel
theorem dX4_mayChange_30 : decode cX4_mayChange 30 = .ok (.getfield 26, 3) := by decide +kernel
theorem dX4_mayChange_33 : decode cX4_mayChange 33 = .ok (.iload 4, 2) := by decide +kernel
theorem dX4_mayChange_35 : decode cX4_mayChange 35 = .ok (.iaload, 1) := by decide +kernel
theorem dX4_mayChange_36 : decode cX4_mayChange 36 = .ok (.invokestatic 62, 3) := by decide +kernel
theorem dX4_mayChange_39 : decode cX4_mayChange 39 = .ok (.ifCond .ne 29, 3) := by decide +kernel
theorem dX4_mayChange_42 : decode cX4_mayChange 42 = .ok (.aload_n 2, 1) := by decide +kernel
theorem dX4_mayChange_43 : decode cX4_mayChange 43 = .ok (.aload_n 1, 1) := by decide +kernel
theorem dX4_mayChange_44 : decode cX4_mayChange 44 = .ok (.getfield 26, 3) := by decide +kernel
theorem dX4_mayChange_47 : decode cX4_mayChange 47 = .ok (.iload 4, 2) := by decide +kernel
theorem dX4_mayChange_49 : decode cX4_mayChange 49 = .ok (.iconst 1, 1) := by decide +kernel
theorem dX4_mayChange_50 : decode cX4_mayChange 50 = .ok (.ixor, 1) := by decide +kernel
theorem dX4_mayChange_51 : decode cX4_mayChange 51 = .ok (.iaload, 1) := by decide +kernel
theorem dX4_mayChange_52 : decode cX4_mayChange 52 = .ok (.aload_n 1, 1) := by decide +kernel
theorem dX4_mayChange_53 : decode cX4_mayChange 53 = .ok (.getfield 26, 3) := by decide +kernel
theorem dX4_mayChange_56 : decode cX4_mayChange 56 = .ok (.iload_n 3, 1) := by decide +kernel
theorem dX4_mayChange_57 : decode cX4_mayChange 57 = .ok (.iaload, 1) := by decide +kernel
theorem dX4_mayChange_58 : decode cX4_mayChange 58 = .ok (.invokestatic 62, 3) := by decide +kernel
theorem dX4_mayChange_61 : decode cX4_mayChange 61 = .ok (.ifCond .ne 7, 3) := by decide +kernel
theorem dX4_mayChange_64 : decode cX4_mayChange 64 = .ok (.iconst 1, 1) := by decide +kernel
theorem dX4_mayChange_65 : decode cX4_mayChange 65 = .ok (.goto 4, 3) := by decide +kernel
theorem dX4_mayChange_68 : decode cX4_mayChange 68 = .ok (.iconst 0, 1) := by decide +kernel
theorem dX4_mayChange_69 : decode cX4_mayChange 69 = .ok (.ireturn, 1) := by decide +kernel
theorem dX4_areOfOneLand_0 : decode cX4_areOfOneLand 0 = .ok (.iload_n 1, 1) := by decide +kernel
theorem dX4_areOfOneLand_1 : decode cX4_areOfOneLand 1 = .ok (.invokestatic 74, 3) := by decide +kernel
theorem dX4_areOfOneLand_4 : decode cX4_areOfOneLand 4 = .ok (.ifCond .eq 23, 3) := by decide +kernel
theorem dX4_areOfOneLand_7 : decode cX4_areOfOneLand 7 = .ok (.iload_n 2, 1) := by decide +kernel
theorem dX4_areOfOneLand_8 : decode cX4_areOfOneLand 8 = .ok (.invokestatic 74, 3) := by decide +kernel
theorem dX4_areOfOneLand_11 : decode cX4_areOfOneLand 11 = .ok (.ifCond .eq 16, 3) := by decide +kernel
theorem dX4_areOfOneLand_14 : decode cX4_areOfOneLand 14 = .ok (.aload_n 0, 1) := by decide +kernel
theorem dX4_areOfOneLand_15 : decode cX4_areOfOneLand 15 = .ok (.iload_n 1, 1) := by decide +kernel
theorem dX4_areOfOneLand_16 : decode cX4_areOfOneLand 16 = .ok (.iaload, 1) := by decide +kernel
theorem dX4_areOfOneLand_17 : decode cX4_areOfOneLand 17 = .ok (.aload_n 0, 1) := by decide +kernel
theorem dX4_areOfOneLand_18 : decode cX4_areOfOneLand 18 = .ok (.iload_n 2, 1) := by decide +kernel
theorem dX4_areOfOneLand_19 : decode cX4_areOfOneLand 19 = .ok (.iaload, 1) := by decide +kernel
theorem dX4_areOfOneLand_20 : decode cX4_areOfOneLand 20 = .ok (.if_icmp .ne 7, 3) := by decide +kernel
theorem dX4_areOfOneLand_23 : decode cX4_areOfOneLand 23 = .ok (.iconst 1, 1) := by decide +kernel
theorem dX4_areOfOneLand_24 : decode cX4_areOfOneLand 24 = .ok (.goto 4, 3) := by decide +kernel
theorem dX4_areOfOneLand_27 : decode cX4_areOfOneLand 27 = .ok (.iconst 0, 1) := by decide +kernel
theorem dX4_areOfOneLand_28 : decode cX4_areOfOneLand 28 = .ok (.ireturn, 1) := by decide +kernel
theorem dX5_init_0 : decode cX5_init 0 = .ok (.aload_n 0, 1) := by decide +kernel
theorem dX5_init_1 : decode cX5_init 1 = .ok (.invokespecial 3, 3) := by decide +kernel
theorem dX5_init_4 : decode cX5_init 4 = .ok (.aload_n 0, 1) := by decide +kernel
theorem dX5_init_5 : decode cX5_init 5 = .ok (.bipush 36, 2) := by decide +kernel
theorem dX5_init_7 : decode cX5_init 7 = .ok (.newarray .int, 2) := by decide +kernel
theorem dX5_init_9 : decode cX5_init 9 = .ok (.putfield 9, 3) := by decide +kernel
theorem dX5_init_12 : decode cX5_init 12 = .ok (.aload_n 0, 1) := by decide +kernel
theorem dX5_init_13 : decode cX5_init 13 = .ok (.bipush 36, 2) := by decide +kernel
theorem dX5_init_15 : decode cX5_init 15 = .ok (.newarray .int, 2) := by decide +kernel
theorem dX5_init_17 : decode cX5_init 17 = .ok (.putfield 15, 3) := by decide +kernel
theorem dX5_init_20 : decode cX5_init 20 = .ok (.aload_n 0, 1) := by decide +kernel
theorem dX5_init_21 : decode cX5_init 21 = .ok (.bipush 36, 2) := by decide +kernel
theorem dX5_init_23 : decode cX5_init 23 = .ok (.newarray .int, 2) := by decide +kernel
theorem dX5_init_25 : decode cX5_init 25 = .ok (.putfield 18, 3) := by decide +kernel
theorem dX5_init_28 : decode cX5_init 28 = .ok (.aload_n 0, 1) := by decide +kernel
theorem dX5_init_29 : decode cX5_init 29 = .ok (.bipush 36, 2) := by decide +kernel
theorem dX5_init_31 : decode cX5_init 31 = .ok (.newarray .int, 2) := by decide +kernel
theorem dX5_init_33 : decode cX5_init 33 = .ok (.putfield 21, 3) := by decide +kernel
theorem dX5_init_36 : decode cX5_init 36 = .ok (.aload_n 0, 1) := by decide +kernel
theorem dX5_init_37 : decode cX5_init 37 = .ok (.bipush 36, 2) := by decide +kernel
theorem dX5_init_39 : decode cX5_init 39 = .ok (.newarray .int, 2) := by decide +kernel
theorem dX5_init_41 : decode cX5_init 41 = .ok (.putfield 24, 3) := by decide +kernel
theorem dX5_init_44 : decode cX5_init 44 = .ok (.aload_n 0, 1) := by decide +kernel
theorem dX5_init_45 : decode cX5_init 45 = .ok (.bipush 6, 2) := by decide +kernel
theorem dX5_init_47 : decode cX5_init 47 = .ok (.newarray .int, 2) := by decide +kernel
theorem dX5_init_49 : decode cX5_init 49 = .ok (.putfield 27, 3) := by decide +kernel
theorem dX5_init_52 : decode cX5_init 52 = .ok (.aload_n 0, 1) := by decide +kernel
theorem dX5_init_53 : decode cX5_init 53 = .ok (.new 30, 3) := by decide +kernel
theorem dX5_init_56 : decode cX5_init 56 = .ok (.dup, 1) := by decide +kernel
theorem dX5_init_57 : decode cX5_init 57 = .ok (.invokespecial 32, 3) := by decide +kernel
theorem dX5_init_60 : decode cX5_init 60 = .ok (.putfield 33, 3) := by decide +kernel
theorem dX5_init_63 : decode cX5_init 63 = .ok (.return_, 1) := by decide +kernel
theorem dX5_foretell_0 : decode cX5_foretell 0 = .ok (.aload_n 0, 1) := by decide +kernel
theorem dX5_foretell_1 : decode cX5_foretell 1 = .ok (.getfield 33, 3) := by decide +kernel
theorem dX5_foretell_4 : decode cX5_foretell 4 = .ok (.aload_n 1, 1) := by decide +kernel
theorem dX5_foretell_5 : decode cX5_foretell 5 = .ok (.invokevirtual 37, 3) := by decide +kernel
theorem dX5_foretell_8 : decode cX5_foretell 8 = .ok (.iconst 0, 1) := by decide +kernel
theorem dX5_foretell_9 : decode cX5_foretell 9 = .ok (.istore_n 3, 1) := by decide +kernel
theorem dX5_foretell_10 : decode cX5_foretell 10 = .ok (.iload_n 3, 1) := by decide +kernel
theorem dX5_foretell_11 : decode cX5_foretell 11 = .ok (.bipush 6, 2) := by decide +kernel
theorem dX5_foretell_13 : decode cX5_foretell 13 = .ok (.if_icmp .ge 24, 3) := by decide +kernel
theorem dX5_foretell_16 : decode cX5_foretell 16 = .ok (.aload_n 0, 1) := by decide +kernel
theorem dX5_foretell_17 : decode cX5_foretell 17 = .ok (.getfield 27, 3) := by decide +kernel
theorem dX5_foretell_20 : decode cX5_foretell 20 = .ok (.iload_n 3, 1) := by decide +kernel
theorem dX5_foretell_21 : decode cX5_foretell 21 = .ok (.aload_n 1, 1) := by decide +kernel
theorem dX5_foretell_22 : decode cX5_foretell 22 = .ok (.getfield 41, 3) := by decide +kernel
theorem dX5_foretell_25 : decode cX5_foretell 25 = .ok (.iload_n 3, 1) := by decide +kernel
theorem dX5_foretell_26 : decode cX5_foretell 26 = .ok (.aaload, 1) := by decide +kernel
theorem dX5_foretell_27 : decode cX5_foretell 27 = .ok (.getfield 47, 3) := by decide +kernel
theorem dX5_foretell_30 : decode cX5_foretell 30 = .ok (.iastore, 1) := by decide +kernel
theorem dX5_foretell_31 : decode cX5_foretell 31 = .ok (.iinc 3 1, 3) := by decide +kernel
theorem dX5_foretell_34 : decode cX5_foretell 34 = .ok (.goto (-24), 3) := by decide +kernel
theorem dX5_foretell_37 : decode cX5_foretell 37 = .ok (.iconst 0, 1) := by decide +kernel
theorem dX5_foretell_38 : decode cX5_foretell 38 = .ok (.istore_n 3, 1) := by decide +kernel
theorem dX5_foretell_39 : decode cX5_foretell 39 = .ok (.iload_n 3, 1) := by decide +kernel
theorem dX5_foretell_40 : decode cX5_foretell 40 = .ok (.iload_n 2, 1) := by decide +kernel
theorem dX5_foretell_41 : decode cX5_foretell 41 = .ok (.if_icmp .gt 21, 3) := by decide +kernel
theorem dX5_foretell_44 : decode cX5_foretell 44 = .ok (.iload_n 3, 1) := by decide +kernel
theorem dX5_foretell_45 : decode cX5_foretell 45 = .ok (.bipush 36, 2) := by decide +kernel
theorem dX5_foretell_47 : decode cX5_foretell 47 = .ok (.if_icmp .ge 15, 3) := by decide +kernel
theorem dX5_foretell_50 : decode cX5_foretell 50 = .ok (.aload_n 0, 1) := by decide +kernel
theorem dX5_foretell_51 : decode cX5_foretell 51 = .ok (.aload_n 1, 1) := by decide +kernel
theorem dX5_foretell_52 : decode cX5_foretell 52 = .ok (.iload_n 3, 1) := by decide +kernel
theorem dX5_foretell_53 : decode cX5_foretell 53 = .ok (.invokevirtual 53, 3) := by decide +kernel
theorem dX5_foretell_56 : decode cX5_foretell 56 = .ok (.iinc 3 1, 3) := by decide +kernel
theorem dX5_foretell_59 : decode cX5_foretell 59 = .ok (.goto (-20), 3) := by decide +kernel
theorem dX5_foretell_62 : decode cX5_foretell 62 = .ok (.return_, 1) := by decide +kernel
theorem dX5_settle_0 : decode cX5_settle 0 = .ok (.aload_n 0, 1) := by decide +kernel
theorem dX5_settle_1 : decode cX5_settle 1 = .ok (.getfield 9, 3) := by decide +kernel
theorem dX5_settle_4 : decode cX5_settle 4 = .ok (.iload_n 2, 1) := by decide +kernel
theorem dX5_settle_5 : decode cX5_settle 5 = .ok (.iconst (-1), 1) := by decide +kernel
theorem dX5_settle_6 : decode cX5_settle 6 = .ok (.iastore, 1) := by decide +kernel
theorem dX5_settle_7 : decode cX5_settle 7 = .ok (.aload_n 0, 1) := by decide +kernel
theorem dX5_settle_8 : decode cX5_settle 8 = .ok (.getfield 15, 3) := by decide +kernel
theorem dX5_settle_11 : decode cX5_settle 11 = .ok (.iload_n 2, 1) := by decide +kernel
theorem dX5_settle_12 : decode cX5_settle 12 = .ok (.iconst (-1), 1) := by decide +kernel
theorem dX5_settle_13 : decode cX5_settle 13 = .ok (.iastore, 1) := by decide +kernel
theorem dX5_settle_14 : decode cX5_settle 14 = .ok (.aload_n 0, 1) := by decide +kernel
theorem dX5_settle_15 : decode cX5_settle 15 = .ok (.getfield 18, 3) := by decide +kernel
theorem dX5_settle_18 : decode cX5_settle 18 = .ok (.iload_n 2, 1) := by decide +kernel
theorem dX5_settle_19 : decode cX5_settle 19 = .ok (.iconst (-1), 1) := by decide +kernel
theorem dX5_settle_20 : decode cX5_settle 20 = .ok (.iastore, 1) := by decide +kernel
theorem dX5_settle_21 : decode cX5_settle 21 = .ok (.aload_n 1, 1) := by decide +kernel
theorem dX5_settle_22 : decode cX5_settle 22 = .ok (.getfield 41, 3) := by decide +kernel
theorem dX5_settle_25 : decode cX5_settle 25 = .ok (.iload_n 2, 1) := by decide +kernel
theorem dX5_settle_26 : decode cX5_settle 26 = .ok (.bipush 6, 2) := by decide +kernel
theorem dX5_settle_28 : decode cX5_settle 28 = .ok (.irem, 1) := by decide +kernel
theorem dX5_settle_29 : decode cX5_settle 29 = .ok (.aaload, 1) := by decide +kernel
theorem dX5_settle_30 : decode cX5_settle 30 = .ok (.astore_n 3, 1) := by decide +kernel
theorem dX5_settle_31 : decode cX5_settle 31 = .ok (.iload_n 2, 1) := by decide +kernel
theorem dX5_settle_32 : decode cX5_settle 32 = .ok (.bipush 6, 2) := by decide +kernel
theorem dX5_settle_34 : decode cX5_settle 34 = .ok (.idiv, 1) := by decide +kernel
theorem dX5_settle_35 : decode cX5_settle 35 = .ok (.istore 4, 2) := by decide +kernel
theorem dX5_settle_37 : decode cX5_settle 37 = .ok (.aload_n 3, 1) := by decide +kernel
theorem dX5_settle_38 : decode cX5_settle 38 = .ok (.iload 4, 2) := by decide +kernel
theorem dX5_settle_40 : decode cX5_settle 40 = .ok (.invokevirtual 57, 3) := by decide +kernel
theorem dX5_settle_43 : decode cX5_settle 43 = .ok (.ifCond .eq 11, 3) := by decide +kernel
theorem dX5_settle_46 : decode cX5_settle 46 = .ok (.aload_n 1, 1) := by decide +kernel
theorem dX5_settle_47 : decode cX5_settle 47 = .ok (.aload_n 3, 1) := by decide +kernel
theorem dX5_settle_48 : decode cX5_settle 48 = .ok (.invokevirtual 61, 3) := by decide +kernel
theorem dX5_settle_51 : decode cX5_settle 51 = .ok (.ifCond .eq 4, 3) := by decide +kernel
theorem dX5_settle_54 : decode cX5_settle 54 = .ok (.return_, 1) := by decide +kernel
theorem dX5_settle_55 : decode cX5_settle 55 = .ok (.aload_n 3, 1) := by decide +kernel
theorem dX5_settle_56 : decode cX5_settle 56 = .ok (.getfield 65, 3) := by decide +kernel
theorem dX5_settle_59 : decode cX5_settle 59 = .ok (.iload 4, 2) := by decide +kernel
theorem dX5_settle_61 : decode cX5_settle 61 = .ok (.iaload, 1) := by decide +kernel
theorem dX5_settle_62 : decode cX5_settle 62 = .ok (.istore 5, 2) := by decide +kernel
theorem dX5_settle_64 : decode cX5_settle 64 = .ok (.iload 5, 2) := by decide +kernel
theorem dX5_settle_66 : decode cX5_settle 66 = .ok (.ifCond .ge 29, 3) := by decide +kernel
theorem dX5_settle_69 : decode cX5_settle 69 = .ok (.aload_n 0, 1) := by decide +kernel
theorem dX5_settle_70 : decode cX5_settle 70 = .ok (.getfield 27, 3) := by decide +kernel
theorem dX5_settle_73 : decode cX5_settle 73 = .ok (.iload_n 2, 1) := by decide +kernel
theorem dX5_settle_74 : decode cX5_settle 74 = .ok (.bipush 6, 2) := by decide +kernel
theorem dX5_settle_76 : decode cX5_settle 76 = .ok (.irem, 1) := by decide +kernel
theorem dX5_settle_77 : decode cX5_settle 77 = .ok (.iaload, 1) := by decide +kernel
theorem dX5_settle_78 : decode cX5_settle 78 = .ok (.istore 6, 2) := by decide +kernel
theorem dX5_settle_80 : decode cX5_settle 80 = .ok (.aload_n 0, 1) := by decide +kernel
theorem dX5_settle_81 : decode cX5_settle 81 = .ok (.aload_n 1, 1) := by decide +kernel
theorem dX5_settle_82 : decode cX5_settle 82 = .ok (.iload_n 2, 1) := by decide +kernel
theorem dX5_settle_83 : decode cX5_settle 83 = .ok (.iconst (-1), 1) := by decide +kernel
theorem dX5_settle_84 : decode cX5_settle 84 = .ok (.iload 6, 2) := by decide +kernel
theorem dX5_settle_86 : decode cX5_settle 86 = .ok (.iload 6, 2) := by decide +kernel
theorem dX5_settle_88 : decode cX5_settle 88 = .ok (.iload 5, 2) := by decide +kernel
theorem dX5_settle_90 : decode cX5_settle 90 = .ok (.isub, 1) := by decide +kernel
theorem dX5_settle_91 : decode cX5_settle 91 = .ok (.invokevirtual 68, 3) := by decide +kernel
theorem dX5_settle_94 : decode cX5_settle 94 = .ok (.return_, 1) := by decide +kernel
theorem dX5_settle_95 : decode cX5_settle 95 = .ok (.aload_n 1, 1) := by decide +kernel
theorem dX5_settle_96 : decode cX5_settle 96 = .ok (.iload 5, 2) := by decide +kernel
theorem dX5_settle_98 : decode cX5_settle 98 = .ok (.invokevirtual 72, 3) := by decide +kernel
theorem dX5_settle_101 : decode cX5_settle 101 = .ok (.astore 6, 2) := by decide +kernel
theorem dX5_settle_103 : decode cX5_settle 103 = .ok (.aload 6, 2) := by decide +kernel
theorem dX5_settle_105 : decode cX5_settle 105 = .ok (.ifnull 51, 3) := by decide +kernel
theorem dX5_settle_108 : decode cX5_settle 108 = .ok (.aload_n 0, 1) := by decide +kernel
theorem dX5_settle_109 : decode cX5_settle 109 = .ok (.aload 6, 2) := by decide +kernel
theorem dX5_settle_111 : decode cX5_settle 111 = .ok (.iload 5, 2) := by decide +kernel
theorem dX5_settle_113 : decode cX5_settle 113 = .ok (.iload_n 2, 1) := by decide +kernel
theorem dX5_settle_114 : decode cX5_settle 114 = .ok (.invokevirtual 76, 3) := by decide +kernel
theorem dX5_settle_117 : decode cX5_settle 117 = .ok (.ifCond .eq 39, 3) := by decide +kernel
theorem dX5_settle_120 : decode cX5_settle 120 = .ok (.aload_n 0, 1) := by decide +kernel
theorem dX5_settle_121 : decode cX5_settle 121 = .ok (.aload 6, 2) := by decide +kernel
theorem dX5_settle_123 : decode cX5_settle 123 = .ok (.iload 5, 2) := by decide +kernel
theorem dX5_settle_125 : decode cX5_settle 125 = .ok (.iload_n 2, 1) := by decide +kernel
theorem dX5_settle_126 : decode cX5_settle 126 = .ok (.aload_n 1, 1) := by decide +kernel
theorem dX5_settle_127 : decode cX5_settle 127 = .ok (.getfield 80, 3) := by decide +kernel
theorem dX5_settle_130 : decode cX5_settle 130 = .ok (.iconst 0, 1) := by decide +kernel
theorem dX5_settle_131 : decode cX5_settle 131 = .ok (.iaload, 1) := by decide +kernel
theorem dX5_settle_132 : decode cX5_settle 132 = .ok (.invokevirtual 83, 3) := by decide +kernel
theorem dX5_settle_135 : decode cX5_settle 135 = .ok (.istore 7, 2) := by decide +kernel
theorem dX5_settle_137 : decode cX5_settle 137 = .ok (.aload_n 0, 1) := by decide +kernel
theorem dX5_settle_138 : decode cX5_settle 138 = .ok (.aload_n 1, 1) := by decide +kernel
theorem dX5_settle_139 : decode cX5_settle 139 = .ok (.iload_n 2, 1) := by decide +kernel
theorem dX5_settle_140 : decode cX5_settle 140 = .ok (.iload 5, 2) := by decide +kernel
theorem dX5_settle_142 : decode cX5_settle 142 = .ok (.iload 7, 2) := by decide +kernel
theorem dX5_settle_144 : decode cX5_settle 144 = .ok (.iload 7, 2) := by decide +kernel
theorem dX5_settle_146 : decode cX5_settle 146 = .ok (.aload_n 1, 1) := by decide +kernel
theorem dX5_settle_147 : decode cX5_settle 147 = .ok (.aload 6, 2) := by decide +kernel
theorem dX5_settle_149 : decode cX5_settle 149 = .ok (.invokevirtual 87, 3) := by decide +kernel
theorem dX5_settle_152 : decode cX5_settle 152 = .ok (.iadd, 1) := by decide +kernel
theorem dX5_settle_153 : decode cX5_settle 153 = .ok (.invokevirtual 68, 3) := by decide +kernel
theorem dX5_settle_156 : decode cX5_settle 156 = .ok (.return_, 1) := by decide +kernel
theorem dX5_fix_0 : decode cX5_fix 0 = .ok (.iload_n 2, 1) := by decide +kernel
theorem dX5_fix_1 : decode cX5_fix 1 = .ok (.bipush 6, 2) := by decide +kernel
theorem dX5_fix_3 : decode cX5_fix 3 = .ok (.irem, 1) := by decide +kernel
theorem dX5_fix_4 : decode cX5_fix 4 = .ok (.istore 6, 2) := by decide +kernel
theorem dX5_fix_6 : decode cX5_fix 6 = .ok (.aload_n 1, 1) := by decide +kernel
theorem dX5_fix_7 : decode cX5_fix 7 = .ok (.aload_n 1, 1) := by decide +kernel
theorem dX5_fix_8 : decode cX5_fix 8 = .ok (.getfield 41, 3) := by decide +kernel
theorem dX5_fix_11 : decode cX5_fix 11 = .ok (.iload 6, 2) := by decide +kernel
theorem dX5_fix_13 : decode cX5_fix 13 = .ok (.aaload, 1) := by decide +kernel
theorem dX5_fix_14 : decode cX5_fix 14 = .ok (.iload 5, 2) := by decide +kernel
theorem dX5_fix_16 : decode cX5_fix 16 = .ok (.invokevirtual 91, 3) := by decide +kernel
theorem dX5_fix_19 : decode cX5_fix 19 = .ok (.ifCond .eq 4, 3) := by decide +kernel
theorem dX5_fix_22 : decode cX5_fix 22 = .ok (.return_, 1) := by decide +kernel
theorem dX5_fix_23 : decode cX5_fix 23 = .ok (.aload_n 0, 1) := by decide +kernel
theorem dX5_fix_24 : decode cX5_fix 24 = .ok (.getfield 9, 3) := by decide +kernel
theorem dX5_fix_27 : decode cX5_fix 27 = .ok (.iload_n 2, 1) := by decide +kernel
theorem dX5_fix_28 : decode cX5_fix 28 = .ok (.iload 4, 2) := by decide +kernel
theorem dX5_fix_30 : decode cX5_fix 30 = .ok (.iastore, 1) := by decide +kernel
theorem dX5_fix_31 : decode cX5_fix 31 = .ok (.aload_n 0, 1) := by decide +kernel
theorem dX5_fix_32 : decode cX5_fix 32 = .ok (.getfield 15, 3) := by decide +kernel
theorem dX5_fix_35 : decode cX5_fix 35 = .ok (.iload_n 2, 1) := by decide +kernel
theorem dX5_fix_36 : decode cX5_fix 36 = .ok (.iload 5, 2) := by decide +kernel
theorem dX5_fix_38 : decode cX5_fix 38 = .ok (.iastore, 1) := by decide +kernel
theorem dX5_fix_39 : decode cX5_fix 39 = .ok (.aload_n 0, 1) := by decide +kernel
theorem dX5_fix_40 : decode cX5_fix 40 = .ok (.getfield 18, 3) := by decide +kernel
theorem dX5_fix_43 : decode cX5_fix 43 = .ok (.iload_n 2, 1) := by decide +kernel
theorem dX5_fix_44 : decode cX5_fix 44 = .ok (.iload_n 3, 1) := by decide +kernel
theorem dX5_fix_45 : decode cX5_fix 45 = .ok (.iastore, 1) := by decide +kernel
theorem dX5_fix_46 : decode cX5_fix 46 = .ok (.aload_n 0, 1) := by decide +kernel
theorem dX5_fix_47 : decode cX5_fix 47 = .ok (.getfield 27, 3) := by decide +kernel
theorem dX5_fix_50 : decode cX5_fix 50 = .ok (.iload 6, 2) := by decide +kernel
theorem dX5_fix_52 : decode cX5_fix 52 = .ok (.iload 5, 2) := by decide +kernel
theorem dX5_fix_54 : decode cX5_fix 54 = .ok (.iastore, 1) := by decide +kernel
theorem dX5_fix_55 : decode cX5_fix 55 = .ok (.return_, 1) := by decide +kernel
theorem dX5_canStand_0 : decode cX5_canStand 0 = .ok (.iload_n 2, 1) := by decide +kernel
theorem dX5_canStand_1 : decode cX5_canStand 1 = .ok (.invokestatic 95, 3) := by decide +kernel
theorem dX5_canStand_4 : decode cX5_canStand 4 = .ok (.istore 4, 2) := by decide +kernel
theorem dX5_canStand_6 : decode cX5_canStand 6 = .ok (.aload_n 1, 1) := by decide +kernel
theorem dX5_canStand_7 : decode cX5_canStand 7 = .ok (.getfield 99, 3) := by decide +kernel
theorem dX5_canStand_10 : decode cX5_canStand 10 = .ok (.iload 4, 2) := by decide +kernel
theorem dX5_canStand_12 : decode cX5_canStand 12 = .ok (.iaload, 1) := by decide +kernel
theorem dX5_canStand_13 : decode cX5_canStand 13 = .ok (.ifCond .ne 12, 3) := by decide +kernel
theorem dX5_canStand_16 : decode cX5_canStand 16 = .ok (.aload_n 0, 1) := by decide +kernel
theorem dX5_canStand_17 : decode cX5_canStand 17 = .ok (.iload_n 2, 1) := by decide +kernel
theorem dX5_canStand_18 : decode cX5_canStand 18 = .ok (.iload_n 3, 1) := by decide +kernel
theorem dX5_canStand_19 : decode cX5_canStand 19 = .ok (.invokevirtual 104, 3) := by decide +kernel
theorem dX5_canStand_22 : decode cX5_canStand 22 = .ok (.ifCond .eq 5, 3) := by decide +kernel
theorem dX5_canStand_25 : decode cX5_canStand 25 = .ok (.iconst 0, 1) := by decide +kernel
theorem dX5_canStand_26 : decode cX5_canStand 26 = .ok (.ireturn, 1) := by decide +kernel
theorem dX5_canStand_27 : decode cX5_canStand 27 = .ok (.iconst 0, 1) := by decide +kernel
theorem dX5_canStand_28 : decode cX5_canStand 28 = .ok (.istore 5, 2) := by decide +kernel
theorem dX5_canStand_30 : decode cX5_canStand 30 = .ok (.iload 5, 2) := by decide +kernel
theorem dX5_canStand_32 : decode cX5_canStand 32 = .ok (.iconst 2, 1) := by decide +kernel
theorem dX5_canStand_33 : decode cX5_canStand 33 = .ok (.if_icmp .ge 49, 3) := by decide +kernel
theorem dX5_canStand_36 : decode cX5_canStand 36 = .ok (.iload_n 2, 1) := by decide +kernel
theorem dX5_canStand_37 : decode cX5_canStand 37 = .ok (.iload 4, 2) := by decide +kernel
theorem dX5_canStand_39 : decode cX5_canStand 39 = .ok (.isub, 1) := by decide +kernel
theorem dX5_canStand_40 : decode cX5_canStand 40 = .ok (.aload_n 1, 1) := by decide +kernel
theorem dX5_canStand_41 : decode cX5_canStand 41 = .ok (.iload 4, 2) := by decide +kernel
theorem dX5_canStand_43 : decode cX5_canStand 43 = .ok (.iload 5, 2) := by decide +kernel
theorem dX5_canStand_45 : decode cX5_canStand 45 = .ok (.invokevirtual 108, 3) := by decide +kernel
theorem dX5_canStand_48 : decode cX5_canStand 48 = .ok (.iadd, 1) := by decide +kernel
theorem dX5_canStand_49 : decode cX5_canStand 49 = .ok (.istore 6, 2) := by decide +kernel
theorem dX5_canStand_51 : decode cX5_canStand 51 = .ok (.aload_n 1, 1) := by decide +kernel
theorem dX5_canStand_52 : decode cX5_canStand 52 = .ok (.iload 4, 2) := by decide +kernel
theorem dX5_canStand_54 : decode cX5_canStand 54 = .ok (.iload 5, 2) := by decide +kernel
theorem dX5_canStand_56 : decode cX5_canStand 56 = .ok (.invokevirtual 112, 3) := by decide +kernel
theorem dX5_canStand_59 : decode cX5_canStand 59 = .ok (.bipush (-2), 2) := by decide +kernel
theorem dX5_canStand_61 : decode cX5_canStand 61 = .ok (.if_icmp .ne 15, 3) := by decide +kernel
theorem dX5_canStand_64 : decode cX5_canStand 64 = .ok (.aload_n 0, 1) := by decide +kernel
theorem dX5_canStand_65 : decode cX5_canStand 65 = .ok (.iload 6, 2) := by decide +kernel
theorem dX5_canStand_67 : decode cX5_canStand 67 = .ok (.iload_n 3, 1) := by decide +kernel
theorem dX5_canStand_68 : decode cX5_canStand 68 = .ok (.invokevirtual 104, 3) := by decide +kernel
theorem dX5_canStand_71 : decode cX5_canStand 71 = .ok (.ifCond .ne 5, 3) := by decide +kernel
theorem dX5_canStand_74 : decode cX5_canStand 74 = .ok (.iconst 0, 1) := by decide +kernel
theorem dX5_canStand_75 : decode cX5_canStand 75 = .ok (.ireturn, 1) := by decide +kernel
theorem dX5_canStand_76 : decode cX5_canStand 76 = .ok (.iinc 5 1, 3) := by decide +kernel
theorem dX5_canStand_79 : decode cX5_canStand 79 = .ok (.goto (-49), 3) := by decide +kernel
theorem dX5_canStand_82 : decode cX5_canStand 82 = .ok (.iconst 1, 1) := by decide +kernel
theorem dX5_canStand_83 : decode cX5_canStand 83 = .ok (.ireturn, 1) := by decide +kernel
theorem dX5_standsAhead_0 : decode cX5_standsAhead 0 = .ok (.iconst 0, 1) := by decide +kernel
theorem dX5_standsAhead_1 : decode cX5_standsAhead 1 = .ok (.istore_n 3, 1) := by decide +kernel
theorem dX5_standsAhead_2 : decode cX5_standsAhead 2 = .ok (.iload_n 3, 1) := by decide +kernel
theorem dX5_standsAhead_3 : decode cX5_standsAhead 3 = .ok (.iload_n 2, 1) := by decide +kernel
theorem dX5_standsAhead_4 : decode cX5_standsAhead 4 = .ok (.if_icmp .ge 21, 3) := by decide +kernel
theorem dX5_standsAhead_7 : decode cX5_standsAhead 7 = .ok (.aload_n 0, 1) := by decide +kernel
theorem dX5_standsAhead_8 : decode cX5_standsAhead 8 = .ok (.getfield 18, 3) := by decide +kernel
theorem dX5_standsAhead_11 : decode cX5_standsAhead 11 = .ok (.iload_n 3, 1) := by decide +kernel
theorem dX5_standsAhead_12 : decode cX5_standsAhead 12 = .ok (.iaload, 1) := by decide +kernel
theorem dX5_standsAhead_13 : decode cX5_standsAhead 13 = .ok (.iload_n 1, 1) := by decide +kernel
theorem dX5_standsAhead_14 : decode cX5_standsAhead 14 = .ok (.if_icmp .ne 5, 3) := by decide +kernel
theorem dX5_standsAhead_17 : decode cX5_standsAhead 17 = .ok (.iconst 1, 1) := by decide +kernel
theorem dX5_standsAhead_18 : decode cX5_standsAhead 18 = .ok (.ireturn, 1) := by decide +kernel
theorem dX5_standsAhead_19 : decode cX5_standsAhead 19 = .ok (.iinc 3 1, 3) := by decide +kernel
theorem dX5_standsAhead_22 : decode cX5_standsAhead 22 = .ok (.goto (-20), 3) := by decide +kernel
theorem dX5_standsAhead_25 : decode cX5_standsAhead 25 = .ok (.iconst 0, 1) := by decide +kernel
theorem dX5_standsAhead_26 : decode cX5_standsAhead 26 = .ok (.ireturn, 1) := by decide +kernel
theorem dX5_earliest_0 : decode cX5_earliest 0 = .ok (.iload_n 2, 1) := by decide +kernel
theorem dX5_earliest_1 : decode cX5_earliest 1 = .ok (.invokestatic 95, 3) := by decide +kernel
theorem dX5_earliest_4 : decode cX5_earliest 4 = .ok (.istore 5, 2) := by decide +kernel
theorem dX5_earliest_6 : decode cX5_earliest 6 = .ok (.aload_n 0, 1) := by decide +kernel
theorem dX5_earliest_7 : decode cX5_earliest 7 = .ok (.getfield 21, 3) := by decide +kernel
theorem dX5_earliest_10 : decode cX5_earliest 10 = .ok (.iload_n 3, 1) := by decide +kernel
theorem dX5_earliest_11 : decode cX5_earliest 11 = .ok (.aload_n 1, 1) := by decide +kernel
theorem dX5_earliest_12 : decode cX5_earliest 12 = .ok (.iload 5, 2) := by decide +kernel
theorem dX5_earliest_14 : decode cX5_earliest 14 = .ok (.iconst 0, 1) := by decide +kernel
theorem dX5_earliest_15 : decode cX5_earliest 15 = .ok (.invokevirtual 112, 3) := by decide +kernel
theorem dX5_earliest_18 : decode cX5_earliest 18 = .ok (.iastore, 1) := by decide +kernel
theorem dX5_earliest_19 : decode cX5_earliest 19 = .ok (.aload_n 0, 1) := by decide +kernel
theorem dX5_earliest_20 : decode cX5_earliest 20 = .ok (.getfield 24, 3) := by decide +kernel
theorem dX5_earliest_23 : decode cX5_earliest 23 = .ok (.iload_n 3, 1) := by decide +kernel
theorem dX5_earliest_24 : decode cX5_earliest 24 = .ok (.aload_n 1, 1) := by decide +kernel
theorem dX5_earliest_25 : decode cX5_earliest 25 = .ok (.iload 5, 2) := by decide +kernel
theorem dX5_earliest_27 : decode cX5_earliest 27 = .ok (.iconst 1, 1) := by decide +kernel
theorem dX5_earliest_28 : decode cX5_earliest 28 = .ok (.invokevirtual 112, 3) := by decide +kernel
theorem dX5_earliest_31 : decode cX5_earliest 31 = .ok (.iastore, 1) := by decide +kernel
theorem dX5_earliest_32 : decode cX5_earliest 32 = .ok (.aload_n 0, 1) := by decide +kernel
theorem dX5_earliest_33 : decode cX5_earliest 33 = .ok (.getfield 27, 3) := by decide +kernel
theorem dX5_earliest_36 : decode cX5_earliest 36 = .ok (.iload_n 3, 1) := by decide +kernel
theorem dX5_earliest_37 : decode cX5_earliest 37 = .ok (.bipush 6, 2) := by decide +kernel
theorem dX5_earliest_39 : decode cX5_earliest 39 = .ok (.irem, 1) := by decide +kernel
theorem dX5_earliest_40 : decode cX5_earliest 40 = .ok (.iaload, 1) := by decide +kernel
theorem dX5_earliest_41 : decode cX5_earliest 41 = .ok (.istore 6, 2) := by decide +kernel
theorem dX5_earliest_43 : decode cX5_earliest 43 = .ok (.iload 6, 2) := by decide +kernel
theorem dX5_earliest_45 : decode cX5_earliest 45 = .ok (.aload_n 0, 1) := by decide +kernel
theorem dX5_earliest_46 : decode cX5_earliest 46 = .ok (.getfield 33, 3) := by decide +kernel
theorem dX5_earliest_49 : decode cX5_earliest 49 = .ok (.aload_n 0, 1) := by decide +kernel
theorem dX5_earliest_50 : decode cX5_earliest 50 = .ok (.getfield 21, 3) := by decide +kernel
theorem dX5_earliest_53 : decode cX5_earliest 53 = .ok (.iload_n 3, 1) := by decide +kernel
theorem dX5_earliest_54 : decode cX5_earliest 54 = .ok (.iaload, 1) := by decide +kernel
theorem dX5_earliest_55 : decode cX5_earliest 55 = .ok (.iload 4, 2) := by decide +kernel
theorem dX5_earliest_57 : decode cX5_earliest 57 = .ok (.invokevirtual 115, 3) := by decide +kernel
theorem dX5_earliest_60 : decode cX5_earliest 60 = .ok (.invokestatic 118, 3) := by decide +kernel
theorem dX5_earliest_63 : decode cX5_earliest 63 = .ok (.istore 6, 2) := by decide +kernel
theorem dX5_earliest_65 : decode cX5_earliest 65 = .ok (.iload 6, 2) := by decide +kernel
theorem dX5_earliest_67 : decode cX5_earliest 67 = .ok (.aload_n 0, 1) := by decide +kernel
theorem dX5_earliest_68 : decode cX5_earliest 68 = .ok (.getfield 33, 3) := by decide +kernel
theorem dX5_earliest_71 : decode cX5_earliest 71 = .ok (.aload_n 0, 1) := by decide +kernel
theorem dX5_earliest_72 : decode cX5_earliest 72 = .ok (.getfield 24, 3) := by decide +kernel
theorem dX5_earliest_75 : decode cX5_earliest 75 = .ok (.iload_n 3, 1) := by decide +kernel
theorem dX5_earliest_76 : decode cX5_earliest 76 = .ok (.iaload, 1) := by decide +kernel
theorem dX5_earliest_77 : decode cX5_earliest 77 = .ok (.iload 4, 2) := by decide +kernel
theorem dX5_earliest_79 : decode cX5_earliest 79 = .ok (.invokevirtual 115, 3) := by decide +kernel
theorem dX5_earliest_82 : decode cX5_earliest 82 = .ok (.invokestatic 118, 3) := by decide +kernel
theorem dX5_earliest_85 : decode cX5_earliest 85 = .ok (.istore 6, 2) := by decide +kernel
theorem dX5_earliest_87 : decode cX5_earliest 87 = .ok (.iconst 0, 1) := by decide +kernel
theorem dX5_earliest_88 : decode cX5_earliest 88 = .ok (.istore 7, 2) := by decide +kernel
theorem dX5_earliest_90 : decode cX5_earliest 90 = .ok (.iload 7, 2) := by decide +kernel
theorem dX5_earliest_92 : decode cX5_earliest 92 = .ok (.iload_n 3, 1) := by decide +kernel
theorem dX5_earliest_93 : decode cX5_earliest 93 = .ok (.if_icmp .ge 61, 3) := by decide +kernel
theorem dX5_earliest_96 : decode cX5_earliest 96 = .ok (.aload_n 0, 1) := by decide +kernel
theorem dX5_earliest_97 : decode cX5_earliest 97 = .ok (.getfield 18, 3) := by decide +kernel
theorem dX5_earliest_100 : decode cX5_earliest 100 = .ok (.iload 7, 2) := by decide +kernel
theorem dX5_earliest_102 : decode cX5_earliest 102 = .ok (.iaload, 1) := by decide +kernel
theorem dX5_earliest_103 : decode cX5_earliest 103 = .ok (.ifCond .lt 45, 3) := by decide +kernel
theorem dX5_earliest_106 : decode cX5_earliest 106 = .ok (.aload_n 1, 1) := by decide +kernel
theorem dX5_earliest_107 : decode cX5_earliest 107 = .ok (.aload_n 0, 1) := by decide +kernel
theorem dX5_earliest_108 : decode cX5_earliest 108 = .ok (.getfield 18, 3) := by decide +kernel
theorem dX5_earliest_111 : decode cX5_earliest 111 = .ok (.iload 7, 2) := by decide +kernel
theorem dX5_earliest_113 : decode cX5_earliest 113 = .ok (.iaload, 1) := by decide +kernel
theorem dX5_earliest_114 : decode cX5_earliest 114 = .ok (.iload_n 2, 1) := by decide +kernel
theorem dX5_earliest_115 : decode cX5_earliest 115 = .ok (.invokestatic 123, 3) := by decide +kernel
theorem dX5_earliest_118 : decode cX5_earliest 118 = .ok (.ifCond .ne 13, 3) := by decide +kernel
theorem dX5_earliest_121 : decode cX5_earliest 121 = .ok (.aload_n 0, 1) := by decide +kernel
theorem dX5_earliest_122 : decode cX5_earliest 122 = .ok (.iload 7, 2) := by decide +kernel
theorem dX5_earliest_124 : decode cX5_earliest 124 = .ok (.iload_n 3, 1) := by decide +kernel
theorem dX5_earliest_125 : decode cX5_earliest 125 = .ok (.invokevirtual 126, 3) := by decide +kernel
theorem dX5_earliest_128 : decode cX5_earliest 128 = .ok (.ifCond .eq 20, 3) := by decide +kernel
theorem dX5_earliest_131 : decode cX5_earliest 131 = .ok (.iload 6, 2) := by decide +kernel
theorem dX5_earliest_133 : decode cX5_earliest 133 = .ok (.aload_n 0, 1) := by decide +kernel
theorem dX5_earliest_134 : decode cX5_earliest 134 = .ok (.getfield 15, 3) := by decide +kernel
theorem dX5_earliest_137 : decode cX5_earliest 137 = .ok (.iload 7, 2) := by decide +kernel
theorem dX5_earliest_139 : decode cX5_earliest 139 = .ok (.iaload, 1) := by decide +kernel
theorem dX5_earliest_140 : decode cX5_earliest 140 = .ok (.iload 4, 2) := by decide +kernel
theorem dX5_earliest_142 : decode cX5_earliest 142 = .ok (.iadd, 1) := by decide +kernel
theorem dX5_earliest_143 : decode cX5_earliest 143 = .ok (.invokestatic 118, 3) := by decide +kernel
theorem dX5_earliest_146 : decode cX5_earliest 146 = .ok (.istore 6, 2) := by decide +kernel
theorem dX5_earliest_148 : decode cX5_earliest 148 = .ok (.iinc 7 1, 3) := by decide +kernel
theorem dX5_earliest_151 : decode cX5_earliest 151 = .ok (.goto (-61), 3) := by decide +kernel
theorem dX5_earliest_154 : decode cX5_earliest 154 = .ok (.iload 6, 2) := by decide +kernel
theorem dX5_earliest_156 : decode cX5_earliest 156 = .ok (.ireturn, 1) := by decide +kernel
theorem dX5_feeds_0 : decode cX5_feeds 0 = .ok (.iload_n 1, 1) := by decide +kernel
theorem dX5_feeds_1 : decode cX5_feeds 1 = .ok (.invokestatic 129, 3) := by decide +kernel
theorem dX5_feeds_4 : decode cX5_feeds 4 = .ok (.iload_n 2, 1) := by decide +kernel
theorem dX5_feeds_5 : decode cX5_feeds 5 = .ok (.invokestatic 129, 3) := by decide +kernel
theorem dX5_feeds_8 : decode cX5_feeds 8 = .ok (.if_icmp .ne 22, 3) := by decide +kernel
theorem dX5_feeds_11 : decode cX5_feeds 11 = .ok (.aload_n 0, 1) := by decide +kernel
theorem dX5_feeds_12 : decode cX5_feeds 12 = .ok (.iload_n 1, 1) := by decide +kernel
theorem dX5_feeds_13 : decode cX5_feeds 13 = .ok (.invokestatic 95, 3) := by decide +kernel
theorem dX5_feeds_16 : decode cX5_feeds 16 = .ok (.invokevirtual 132, 3) := by decide +kernel
theorem dX5_feeds_19 : decode cX5_feeds 19 = .ok (.iload_n 2, 1) := by decide +kernel
theorem dX5_feeds_20 : decode cX5_feeds 20 = .ok (.invokestatic 95, 3) := by decide +kernel
theorem dX5_feeds_23 : decode cX5_feeds 23 = .ok (.if_icmp .ne 7, 3) := by decide +kernel
theorem dX5_feeds_26 : decode cX5_feeds 26 = .ok (.iconst 1, 1) := by decide +kernel
theorem dX5_feeds_27 : decode cX5_feeds 27 = .ok (.goto 4, 3) := by decide +kernel
theorem dX5_feeds_30 : decode cX5_feeds 30 = .ok (.iconst 0, 1) := by decide +kernel
theorem dX5_feeds_31 : decode cX5_feeds 31 = .ok (.ireturn, 1) := by decide +kernel
theorem dX5_sharePlayer_0 : decode cX5_sharePlayer 0 = .ok (.aload_n 0, 1) := by decide +kernel
theorem dX5_sharePlayer_1 : decode cX5_sharePlayer 1 = .ok (.iload_n 1, 1) := by decide +kernel
theorem dX5_sharePlayer_2 : decode cX5_sharePlayer 2 = .ok (.aload_n 0, 1) := by decide +kernel
theorem dX5_sharePlayer_3 : decode cX5_sharePlayer 3 = .ok (.getfield 21, 3) := by decide +kernel
theorem dX5_sharePlayer_6 : decode cX5_sharePlayer 6 = .ok (.iload_n 2, 1) := by decide +kernel
theorem dX5_sharePlayer_7 : decode cX5_sharePlayer 7 = .ok (.iaload, 1) := by decide +kernel
theorem dX5_sharePlayer_8 : decode cX5_sharePlayer 8 = .ok (.invokevirtual 135, 3) := by decide +kernel
theorem dX5_sharePlayer_11 : decode cX5_sharePlayer 11 = .ok (.ifCond .ne 17, 3) := by decide +kernel
theorem dX5_sharePlayer_14 : decode cX5_sharePlayer 14 = .ok (.aload_n 0, 1) := by decide +kernel
theorem dX5_sharePlayer_15 : decode cX5_sharePlayer 15 = .ok (.iload_n 1, 1) := by decide +kernel
theorem dX5_sharePlayer_16 : decode cX5_sharePlayer 16 = .ok (.aload_n 0, 1) := by decide +kernel
theorem dX5_sharePlayer_17 : decode cX5_sharePlayer 17 = .ok (.getfield 24, 3) := by decide +kernel
theorem dX5_sharePlayer_20 : decode cX5_sharePlayer 20 = .ok (.iload_n 2, 1) := by decide +kernel
theorem dX5_sharePlayer_21 : decode cX5_sharePlayer 21 = .ok (.iaload, 1) := by decide +kernel
theorem dX5_sharePlayer_22 : decode cX5_sharePlayer 22 = .ok (.invokevirtual 135, 3) := by decide +kernel
theorem dX5_sharePlayer_25 : decode cX5_sharePlayer 25 = .ok (.ifCond .eq 7, 3) := by decide +kernel
theorem dX5_sharePlayer_28 : decode cX5_sharePlayer 28 = .ok (.iconst 1, 1) := by decide +kernel
theorem dX5_sharePlayer_29 : decode cX5_sharePlayer 29 = .ok (.goto 4, 3) := by decide +kernel
theorem dX5_sharePlayer_32 : decode cX5_sharePlayer 32 = .ok (.iconst 0, 1) := by decide +kernel
theorem dX5_sharePlayer_33 : decode cX5_sharePlayer 33 = .ok (.ireturn, 1) := by decide +kernel
theorem dX5_plays_0 : decode cX5_plays 0 = .ok (.iload_n 2, 1) := by decide +kernel
theorem dX5_plays_1 : decode cX5_plays 1 = .ok (.invokestatic 138, 3) := by decide +kernel
theorem dX5_plays_4 : decode cX5_plays 4 = .ok (.ifCond .eq 27, 3) := by decide +kernel
theorem dX5_plays_7 : decode cX5_plays 7 = .ok (.aload_n 0, 1) := by decide +kernel
theorem dX5_plays_8 : decode cX5_plays 8 = .ok (.getfield 21, 3) := by decide +kernel
theorem dX5_plays_11 : decode cX5_plays 11 = .ok (.iload_n 1, 1) := by decide +kernel
theorem dX5_plays_12 : decode cX5_plays 12 = .ok (.iaload, 1) := by decide +kernel
theorem dX5_plays_13 : decode cX5_plays 13 = .ok (.iload_n 2, 1) := by decide +kernel
theorem dX5_plays_14 : decode cX5_plays 14 = .ok (.if_icmp .eq 13, 3) := by decide +kernel
theorem dX5_plays_17 : decode cX5_plays 17 = .ok (.aload_n 0, 1) := by decide +kernel
theorem dX5_plays_18 : decode cX5_plays 18 = .ok (.getfield 24, 3) := by decide +kernel
theorem dX5_plays_21 : decode cX5_plays 21 = .ok (.iload_n 1, 1) := by decide +kernel
theorem dX5_plays_22 : decode cX5_plays 22 = .ok (.iaload, 1) := by decide +kernel
theorem dX5_plays_23 : decode cX5_plays 23 = .ok (.iload_n 2, 1) := by decide +kernel
theorem dX5_plays_24 : decode cX5_plays 24 = .ok (.if_icmp .ne 7, 3) := by decide +kernel
theorem dX5_plays_27 : decode cX5_plays 27 = .ok (.iconst 1, 1) := by decide +kernel
theorem dX5_plays_28 : decode cX5_plays 28 = .ok (.goto 4, 3) := by decide +kernel
theorem dX5_plays_31 : decode cX5_plays 31 = .ok (.iconst 0, 1) := by decide +kernel
theorem dX5_plays_32 : decode cX5_plays 32 = .ok (.ireturn, 1) := by decide +kernel
theorem dX6_init_0 : decode cX6_init 0 = .ok (.aload_n 0, 1) := by decide +kernel
theorem dX6_init_1 : decode cX6_init 1 = .ok (.invokespecial 3, 3) := by decide +kernel
theorem dX6_init_4 : decode cX6_init 4 = .ok (.aload_n 0, 1) := by decide +kernel
theorem dX6_init_5 : decode cX6_init 5 = .ok (.bipush 40, 2) := by decide +kernel
theorem dX6_init_7 : decode cX6_init 7 = .ok (.newarray .int, 2) := by decide +kernel
theorem dX6_init_9 : decode cX6_init 9 = .ok (.putfield 9, 3) := by decide +kernel
theorem dX6_init_12 : decode cX6_init 12 = .ok (.return_, 1) := by decide +kernel
theorem dX6_gather_0 : decode cX6_gather 0 = .ok (.iconst 0, 1) := by decide +kernel
theorem dX6_gather_1 : decode cX6_gather 1 = .ok (.istore_n 2, 1) := by decide +kernel
theorem dX6_gather_2 : decode cX6_gather 2 = .ok (.iload_n 2, 1) := by decide +kernel
theorem dX6_gather_3 : decode cX6_gather 3 = .ok (.bipush 40, 2) := by decide +kernel
theorem dX6_gather_5 : decode cX6_gather 5 = .ok (.if_icmp .ge 16, 3) := by decide +kernel
theorem dX6_gather_8 : decode cX6_gather 8 = .ok (.aload_n 0, 1) := by decide +kernel
theorem dX6_gather_9 : decode cX6_gather 9 = .ok (.getfield 9, 3) := by decide +kernel
theorem dX6_gather_12 : decode cX6_gather 12 = .ok (.iload_n 2, 1) := by decide +kernel
theorem dX6_gather_13 : decode cX6_gather 13 = .ok (.iconst (-1), 1) := by decide +kernel
theorem dX6_gather_14 : decode cX6_gather 14 = .ok (.iastore, 1) := by decide +kernel
theorem dX6_gather_15 : decode cX6_gather 15 = .ok (.iinc 2 1, 3) := by decide +kernel
theorem dX6_gather_18 : decode cX6_gather 18 = .ok (.goto (-16), 3) := by decide +kernel
theorem dX6_gather_21 : decode cX6_gather 21 = .ok (.iconst 0, 1) := by decide +kernel
theorem dX6_gather_22 : decode cX6_gather 22 = .ok (.istore_n 2, 1) := by decide +kernel
theorem dX6_gather_23 : decode cX6_gather 23 = .ok (.iload_n 2, 1) := by decide +kernel
theorem dX6_gather_24 : decode cX6_gather 24 = .ok (.bipush 64, 2) := by decide +kernel
theorem dX6_gather_26 : decode cX6_gather 26 = .ok (.if_icmp .ge 71, 3) := by decide +kernel
theorem dX6_gather_29 : decode cX6_gather 29 = .ok (.aload_n 1, 1) := by decide +kernel
theorem dX6_gather_30 : decode cX6_gather 30 = .ok (.iload_n 2, 1) := by decide +kernel
theorem dX6_gather_31 : decode cX6_gather 31 = .ok (.invokevirtual 15, 3) := by decide +kernel
theorem dX6_gather_34 : decode cX6_gather 34 = .ok (.astore_n 3, 1) := by decide +kernel
theorem dX6_gather_35 : decode cX6_gather 35 = .ok (.iload_n 2, 1) := by decide +kernel
theorem dX6_gather_36 : decode cX6_gather 36 = .ok (.invokestatic 21, 3) := by decide +kernel
theorem dX6_gather_39 : decode cX6_gather 39 = .ok (.istore 4, 2) := by decide +kernel
theorem dX6_gather_41 : decode cX6_gather 41 = .ok (.aload_n 3, 1) := by decide +kernel
theorem dX6_gather_42 : decode cX6_gather 42 = .ok (.ifnull 49, 3) := by decide +kernel
theorem dX6_gather_45 : decode cX6_gather 45 = .ok (.aload_n 3, 1) := by decide +kernel
theorem dX6_gather_46 : decode cX6_gather 46 = .ok (.getfield 25, 3) := by decide +kernel
theorem dX6_gather_49 : decode cX6_gather 49 = .ok (.iload 4, 2) := by decide +kernel
theorem dX6_gather_51 : decode cX6_gather 51 = .ok (.iaload, 1) := by decide +kernel
theorem dX6_gather_52 : decode cX6_gather 52 = .ok (.ifCond .lt 39, 3) := by decide +kernel
theorem dX6_gather_55 : decode cX6_gather 55 = .ok (.aload_n 0, 1) := by decide +kernel
theorem dX6_gather_56 : decode cX6_gather 56 = .ok (.aload_n 3, 1) := by decide +kernel
theorem dX6_gather_57 : decode cX6_gather 57 = .ok (.iload 4, 2) := by decide +kernel
theorem dX6_gather_59 : decode cX6_gather 59 = .ok (.iconst 0, 1) := by decide +kernel
theorem dX6_gather_60 : decode cX6_gather 60 = .ok (.invokevirtual 30, 3) := by decide +kernel
theorem dX6_gather_63 : decode cX6_gather 63 = .ok (.aload_n 3, 1) := by decide +kernel
theorem dX6_gather_64 : decode cX6_gather 64 = .ok (.getfield 25, 3) := by decide +kernel
theorem dX6_gather_67 : decode cX6_gather 67 = .ok (.iload 4, 2) := by decide +kernel
theorem dX6_gather_69 : decode cX6_gather 69 = .ok (.iaload, 1) := by decide +kernel
