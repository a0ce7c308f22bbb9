theorem dX9_isOfBye_1 : decode cX9_isOfBye 1 = .ok (.iload_n 1, 1) := by decide +kernel
theorem dX9_isOfBye_2 : decode cX9_isOfBye 2 = .ok (.bipush 16, 2) := by decide +kernel
theorem dX9_isOfBye_4 : decode cX9_isOfBye 4 = .ok (.idiv, 1) := by decide +kernel
theorem dX9_isOfBye_5 : decode cX9_isOfBye 5 = .ok (.iload_n 1, 1) := by decide +kernel
theorem dX9_isOfBye_6 : decode cX9_isOfBye 6 = .ok (.bipush 16, 2) := by decide +kernel
theorem dX9_isOfBye_8 : decode cX9_isOfBye 8 = .ok (.irem, 1) := by decide +kernel
theorem dX9_isOfBye_9 : decode cX9_isOfBye 9 = .ok (.invokevirtual 167, 3) := by decide +kernel
theorem dX9_isOfBye_12 : decode cX9_isOfBye 12 = .ok (.ifCond .ne 27, 3) := by decide +kernel
theorem dX9_isOfBye_15 : decode cX9_isOfBye 15 = .ok (.aload_n 0, 1) := by decide +kernel
theorem dX9_isOfBye_16 : decode cX9_isOfBye 16 = .ok (.iload_n 1, 1) := by decide +kernel
theorem dX9_isOfBye_17 : decode cX9_isOfBye 17 = .ok (.iconst 0, 1) := by decide +kernel
theorem dX9_isOfBye_18 : decode cX9_isOfBye 18 = .ok (.invokevirtual 173, 3) := by decide +kernel
theorem dX9_isOfBye_21 : decode cX9_isOfBye 21 = .ok (.iconst (-1), 1) := by decide +kernel
theorem dX9_isOfBye_22 : decode cX9_isOfBye 22 = .ok (.if_icmp .eq 13, 3) := by decide +kernel
theorem dX9_isOfBye_25 : decode cX9_isOfBye 25 = .ok (.aload_n 0, 1) := by decide +kernel
theorem dX9_isOfBye_26 : decode cX9_isOfBye 26 = .ok (.iload_n 1, 1) := by decide +kernel
theorem dX9_isOfBye_27 : decode cX9_isOfBye 27 = .ok (.iconst 1, 1) := by decide +kernel
theorem dX9_isOfBye_28 : decode cX9_isOfBye 28 = .ok (.invokevirtual 173, 3) := by decide +kernel
theorem dX9_isOfBye_31 : decode cX9_isOfBye 31 = .ok (.iconst (-1), 1) := by decide +kernel
theorem dX9_isOfBye_32 : decode cX9_isOfBye 32 = .ok (.if_icmp .ne 7, 3) := by decide +kernel
theorem dX9_isOfBye_35 : decode cX9_isOfBye 35 = .ok (.iconst 1, 1) := by decide +kernel
theorem dX9_isOfBye_36 : decode cX9_isOfBye 36 = .ok (.goto 4, 3) := by decide +kernel
theorem dX9_isOfBye_39 : decode cX9_isOfBye 39 = .ok (.iconst 0, 1) := by decide +kernel
theorem dX9_isOfBye_40 : decode cX9_isOfBye 40 = .ok (.ireturn, 1) := by decide +kernel
theorem dX9_winnerOf_0 : decode cX9_winnerOf 0 = .ok (.aload_n 0, 1) := by decide +kernel
theorem dX9_winnerOf_1 : decode cX9_winnerOf 1 = .ok (.getfield 28, 3) := by decide +kernel
theorem dX9_winnerOf_4 : decode cX9_winnerOf 4 = .ok (.iload_n 1, 1) := by decide +kernel
theorem dX9_winnerOf_5 : decode cX9_winnerOf 5 = .ok (.bipush 16, 2) := by decide +kernel
theorem dX9_winnerOf_7 : decode cX9_winnerOf 7 = .ok (.idiv, 1) := by decide +kernel
theorem dX9_winnerOf_8 : decode cX9_winnerOf 8 = .ok (.baload, 1) := by decide +kernel
theorem dX9_winnerOf_9 : decode cX9_winnerOf 9 = .ok (.ifCond .ne 5, 3) := by decide +kernel
theorem dX9_winnerOf_12 : decode cX9_winnerOf 12 = .ok (.iconst (-1), 1) := by decide +kernel
theorem dX9_winnerOf_13 : decode cX9_winnerOf 13 = .ok (.ireturn, 1) := by decide +kernel
theorem dX9_winnerOf_14 : decode cX9_winnerOf 14 = .ok (.aload_n 0, 1) := by decide +kernel
theorem dX9_winnerOf_15 : decode cX9_winnerOf 15 = .ok (.iload_n 1, 1) := by decide +kernel
theorem dX9_winnerOf_16 : decode cX9_winnerOf 16 = .ok (.invokevirtual 176, 3) := by decide +kernel
theorem dX9_winnerOf_19 : decode cX9_winnerOf 19 = .ok (.ifCond .eq 19, 3) := by decide +kernel
theorem dX9_winnerOf_22 : decode cX9_winnerOf 22 = .ok (.aload_n 0, 1) := by decide +kernel
theorem dX9_winnerOf_23 : decode cX9_winnerOf 23 = .ok (.iload_n 1, 1) := by decide +kernel
theorem dX9_winnerOf_24 : decode cX9_winnerOf 24 = .ok (.iconst 0, 1) := by decide +kernel
theorem dX9_winnerOf_25 : decode cX9_winnerOf 25 = .ok (.invokevirtual 173, 3) := by decide +kernel
theorem dX9_winnerOf_28 : decode cX9_winnerOf 28 = .ok (.iconst (-1), 1) := by decide +kernel
theorem dX9_winnerOf_29 : decode cX9_winnerOf 29 = .ok (.if_icmp .ne 7, 3) := by decide +kernel
theorem dX9_winnerOf_32 : decode cX9_winnerOf 32 = .ok (.iconst 1, 1) := by decide +kernel
theorem dX9_winnerOf_33 : decode cX9_winnerOf 33 = .ok (.goto 4, 3) := by decide +kernel
theorem dX9_winnerOf_36 : decode cX9_winnerOf 36 = .ok (.iconst 0, 1) := by decide +kernel
theorem dX9_winnerOf_37 : decode cX9_winnerOf 37 = .ok (.ireturn, 1) := by decide +kernel
theorem dX9_winnerOf_38 : decode cX9_winnerOf 38 = .ok (.aload_n 0, 1) := by decide +kernel
theorem dX9_winnerOf_39 : decode cX9_winnerOf 39 = .ok (.getfield 45, 3) := by decide +kernel
theorem dX9_winnerOf_42 : decode cX9_winnerOf 42 = .ok (.iload_n 1, 1) := by decide +kernel
theorem dX9_winnerOf_43 : decode cX9_winnerOf 43 = .ok (.iaload, 1) := by decide +kernel
theorem dX9_winnerOf_44 : decode cX9_winnerOf 44 = .ok (.ifCond .eq 10, 3) := by decide +kernel
theorem dX9_winnerOf_47 : decode cX9_winnerOf 47 = .ok (.aload_n 0, 1) := by decide +kernel
theorem dX9_winnerOf_48 : decode cX9_winnerOf 48 = .ok (.getfield 48, 3) := by decide +kernel
theorem dX9_winnerOf_51 : decode cX9_winnerOf 51 = .ok (.iload_n 1, 1) := by decide +kernel
theorem dX9_winnerOf_52 : decode cX9_winnerOf 52 = .ok (.iaload, 1) := by decide +kernel
theorem dX9_winnerOf_53 : decode cX9_winnerOf 53 = .ok (.ireturn, 1) := by decide +kernel
theorem dX9_winnerOf_54 : decode cX9_winnerOf 54 = .ok (.aload_n 0, 1) := by decide +kernel
theorem dX9_winnerOf_55 : decode cX9_winnerOf 55 = .ok (.iload_n 1, 1) := by decide +kernel
theorem dX9_winnerOf_56 : decode cX9_winnerOf 56 = .ok (.aload_n 0, 1) := by decide +kernel
theorem dX9_winnerOf_57 : decode cX9_winnerOf 57 = .ok (.getfield 38, 3) := by decide +kernel
theorem dX9_winnerOf_60 : decode cX9_winnerOf 60 = .ok (.iload_n 1, 1) := by decide +kernel
theorem dX9_winnerOf_61 : decode cX9_winnerOf 61 = .ok (.iaload, 1) := by decide +kernel
theorem dX9_winnerOf_62 : decode cX9_winnerOf 62 = .ok (.invokevirtual 188, 3) := by decide +kernel
theorem dX9_winnerOf_65 : decode cX9_winnerOf 65 = .ok (.aload_n 0, 1) := by decide +kernel
theorem dX9_winnerOf_66 : decode cX9_winnerOf 66 = .ok (.getfield 87, 3) := by decide +kernel
theorem dX9_winnerOf_69 : decode cX9_winnerOf 69 = .ok (.iconst 0, 1) := by decide +kernel
theorem dX9_winnerOf_70 : decode cX9_winnerOf 70 = .ok (.iaload, 1) := by decide +kernel
theorem dX9_winnerOf_71 : decode cX9_winnerOf 71 = .ok (.aload_n 0, 1) := by decide +kernel
theorem dX9_winnerOf_72 : decode cX9_winnerOf 72 = .ok (.getfield 16, 3) := by decide +kernel
theorem dX9_winnerOf_75 : decode cX9_winnerOf 75 = .ok (.iload_n 1, 1) := by decide +kernel
theorem dX9_winnerOf_76 : decode cX9_winnerOf 76 = .ok (.bipush 16, 2) := by decide +kernel
theorem dX9_winnerOf_78 : decode cX9_winnerOf 78 = .ok (.idiv, 1) := by decide +kernel
theorem dX9_winnerOf_79 : decode cX9_winnerOf 79 = .ok (.iaload, 1) := by decide +kernel
theorem dX9_winnerOf_80 : decode cX9_winnerOf 80 = .ok (.if_icmp .ne 7, 3) := by decide +kernel
theorem dX9_winnerOf_83 : decode cX9_winnerOf 83 = .ok (.iconst 0, 1) := by decide +kernel
theorem dX9_winnerOf_84 : decode cX9_winnerOf 84 = .ok (.goto 26, 3) := by decide +kernel
theorem dX9_winnerOf_87 : decode cX9_winnerOf 87 = .ok (.aload_n 0, 1) := by decide +kernel
theorem dX9_winnerOf_88 : decode cX9_winnerOf 88 = .ok (.getfield 87, 3) := by decide +kernel
theorem dX9_winnerOf_91 : decode cX9_winnerOf 91 = .ok (.iconst 1, 1) := by decide +kernel
theorem dX9_winnerOf_92 : decode cX9_winnerOf 92 = .ok (.iaload, 1) := by decide +kernel
theorem dX9_winnerOf_93 : decode cX9_winnerOf 93 = .ok (.aload_n 0, 1) := by decide +kernel
theorem dX9_winnerOf_94 : decode cX9_winnerOf 94 = .ok (.getfield 16, 3) := by decide +kernel
theorem dX9_winnerOf_97 : decode cX9_winnerOf 97 = .ok (.iload_n 1, 1) := by decide +kernel
theorem dX9_winnerOf_98 : decode cX9_winnerOf 98 = .ok (.bipush 16, 2) := by decide +kernel
theorem dX9_winnerOf_100 : decode cX9_winnerOf 100 = .ok (.idiv, 1) := by decide +kernel
theorem dX9_winnerOf_101 : decode cX9_winnerOf 101 = .ok (.iaload, 1) := by decide +kernel
theorem dX9_winnerOf_102 : decode cX9_winnerOf 102 = .ok (.if_icmp .ne 7, 3) := by decide +kernel
theorem dX9_winnerOf_105 : decode cX9_winnerOf 105 = .ok (.iconst 1, 1) := by decide +kernel
theorem dX9_winnerOf_106 : decode cX9_winnerOf 106 = .ok (.goto 4, 3) := by decide +kernel
theorem dX9_winnerOf_109 : decode cX9_winnerOf 109 = .ok (.iconst (-1), 1) := by decide +kernel
theorem dX9_winnerOf_110 : decode cX9_winnerOf 110 = .ok (.ireturn, 1) := by decide +kernel
theorem dX9_isEnded_0 : decode cX9_isEnded 0 = .ok (.aload_n 0, 1) := by decide +kernel
theorem dX9_isEnded_1 : decode cX9_isEnded 1 = .ok (.iload_n 1, 1) := by decide +kernel
theorem dX9_isEnded_2 : decode cX9_isEnded 2 = .ok (.invokevirtual 185, 3) := by decide +kernel
theorem dX9_isEnded_5 : decode cX9_isEnded 5 = .ok (.ifCond .lt 7, 3) := by decide +kernel
theorem dX9_isEnded_8 : decode cX9_isEnded 8 = .ok (.iconst 1, 1) := by decide +kernel
theorem dX9_isEnded_9 : decode cX9_isEnded 9 = .ok (.goto 4, 3) := by decide +kernel
theorem dX9_isEnded_12 : decode cX9_isEnded 12 = .ok (.iconst 0, 1) := by decide +kernel
theorem dX9_isEnded_13 : decode cX9_isEnded 13 = .ok (.ireturn, 1) := by decide +kernel
theorem dX9_isKnown_0 : decode cX9_isKnown 0 = .ok (.aload_n 0, 1) := by decide +kernel
theorem dX9_isKnown_1 : decode cX9_isKnown 1 = .ok (.iload_n 1, 1) := by decide +kernel
theorem dX9_isKnown_2 : decode cX9_isKnown 2 = .ok (.iconst 0, 1) := by decide +kernel
theorem dX9_isKnown_3 : decode cX9_isKnown 3 = .ok (.invokevirtual 173, 3) := by decide +kernel
theorem dX9_isKnown_6 : decode cX9_isKnown 6 = .ok (.ifCond .lt 16, 3) := by decide +kernel
theorem dX9_isKnown_9 : decode cX9_isKnown 9 = .ok (.aload_n 0, 1) := by decide +kernel
theorem dX9_isKnown_10 : decode cX9_isKnown 10 = .ok (.iload_n 1, 1) := by decide +kernel
theorem dX9_isKnown_11 : decode cX9_isKnown 11 = .ok (.iconst 1, 1) := by decide +kernel
theorem dX9_isKnown_12 : decode cX9_isKnown 12 = .ok (.invokevirtual 173, 3) := by decide +kernel
theorem dX9_isKnown_15 : decode cX9_isKnown 15 = .ok (.ifCond .lt 7, 3) := by decide +kernel
theorem dX9_isKnown_18 : decode cX9_isKnown 18 = .ok (.iconst 1, 1) := by decide +kernel
theorem dX9_isKnown_19 : decode cX9_isKnown 19 = .ok (.goto 4, 3) := by decide +kernel
theorem dX9_isKnown_22 : decode cX9_isKnown 22 = .ok (.iconst 0, 1) := by decide +kernel
theorem dX9_isKnown_23 : decode cX9_isKnown 23 = .ok (.ireturn, 1) := by decide +kernel
theorem dX9_side_0 : decode cX9_side 0 = .ok (.aload_n 0, 1) := by decide +kernel
theorem dX9_side_1 : decode cX9_side 1 = .ok (.iload_n 1, 1) := by decide +kernel
theorem dX9_side_2 : decode cX9_side 2 = .ok (.invokevirtual 191, 3) := by decide +kernel
theorem dX9_side_5 : decode cX9_side 5 = .ok (.ifCond .eq 12, 3) := by decide +kernel
theorem dX9_side_8 : decode cX9_side 8 = .ok (.iload_n 2, 1) := by decide +kernel
theorem dX9_side_9 : decode cX9_side 9 = .ok (.iconst 0, 1) := by decide +kernel
theorem dX9_side_10 : decode cX9_side 10 = .ok (.iconst 1, 1) := by decide +kernel
theorem dX9_side_11 : decode cX9_side 11 = .ok (.invokestatic 111, 3) := by decide +kernel
theorem dX9_side_14 : decode cX9_side 14 = .ok (.ifCond .ne 5, 3) := by decide +kernel
theorem dX9_side_17 : decode cX9_side 17 = .ok (.iconst (-1), 1) := by decide +kernel
theorem dX9_side_18 : decode cX9_side 18 = .ok (.ireturn, 1) := by decide +kernel
theorem dX9_side_19 : decode cX9_side 19 = .ok (.iconst (-1), 1) := by decide +kernel
theorem dX9_side_20 : decode cX9_side 20 = .ok (.aload_n 0, 1) := by decide +kernel
theorem dX9_side_21 : decode cX9_side 21 = .ok (.iload_n 1, 1) := by decide +kernel
theorem dX9_side_22 : decode cX9_side 22 = .ok (.iload_n 2, 1) := by decide +kernel
theorem dX9_side_23 : decode cX9_side 23 = .ok (.invokevirtual 173, 3) := by decide +kernel
theorem dX9_side_26 : decode cX9_side 26 = .ok (.invokestatic 194, 3) := by decide +kernel
theorem dX9_side_29 : decode cX9_side 29 = .ok (.ireturn, 1) := by decide +kernel
theorem dX9_replay_0 : decode cX9_replay 0 = .ok (.iconst 0, 1) := by decide +kernel
theorem dX9_replay_1 : decode cX9_replay 1 = .ok (.istore_n 3, 1) := by decide +kernel
theorem dX9_replay_2 : decode cX9_replay 2 = .ok (.iload_n 3, 1) := by decide +kernel
theorem dX9_replay_3 : decode cX9_replay 3 = .ok (.iconst 2, 1) := by decide +kernel
theorem dX9_replay_4 : decode cX9_replay 4 = .ok (.if_icmp .ge 30, 3) := by decide +kernel
theorem dX9_replay_7 : decode cX9_replay 7 = .ok (.aload_n 0, 1) := by decide +kernel
theorem dX9_replay_8 : decode cX9_replay 8 = .ok (.getfield 81, 3) := by decide +kernel
theorem dX9_replay_11 : decode cX9_replay 11 = .ok (.iload_n 3, 1) := by decide +kernel
theorem dX9_replay_12 : decode cX9_replay 12 = .ok (.iconst 0, 1) := by decide +kernel
theorem dX9_replay_13 : decode cX9_replay 13 = .ok (.iastore, 1) := by decide +kernel
theorem dX9_replay_14 : decode cX9_replay 14 = .ok (.aload_n 0, 1) := by decide +kernel
theorem dX9_replay_15 : decode cX9_replay 15 = .ok (.getfield 84, 3) := by decide +kernel
theorem dX9_replay_18 : decode cX9_replay 18 = .ok (.iload_n 3, 1) := by decide +kernel
theorem dX9_replay_19 : decode cX9_replay 19 = .ok (.iconst 0, 1) := by decide +kernel
theorem dX9_replay_20 : decode cX9_replay 20 = .ok (.iastore, 1) := by decide +kernel
theorem dX9_replay_21 : decode cX9_replay 21 = .ok (.aload_n 0, 1) := by decide +kernel
theorem dX9_replay_22 : decode cX9_replay 22 = .ok (.getfield 87, 3) := by decide +kernel
theorem dX9_replay_25 : decode cX9_replay 25 = .ok (.iload_n 3, 1) := by decide +kernel
theorem dX9_replay_26 : decode cX9_replay 26 = .ok (.iconst 0, 1) := by decide +kernel
theorem dX9_replay_27 : decode cX9_replay 27 = .ok (.iastore, 1) := by decide +kernel
theorem dX9_replay_28 : decode cX9_replay 28 = .ok (.iinc 3 1, 3) := by decide +kernel
theorem dX9_replay_31 : decode cX9_replay 31 = .ok (.goto (-29), 3) := by decide +kernel
theorem dX9_replay_34 : decode cX9_replay 34 = .ok (.aload_n 0, 1) := by decide +kernel
theorem dX9_replay_35 : decode cX9_replay 35 = .ok (.iconst 0, 1) := by decide +kernel
theorem dX9_replay_36 : decode cX9_replay 36 = .ok (.putfield 199, 3) := by decide +kernel
theorem dX9_replay_39 : decode cX9_replay 39 = .ok (.aload_n 0, 1) := by decide +kernel
theorem dX9_replay_40 : decode cX9_replay 40 = .ok (.iconst 0, 1) := by decide +kernel
theorem dX9_replay_41 : decode cX9_replay 41 = .ok (.putfield 202, 3) := by decide +kernel
theorem dX9_replay_44 : decode cX9_replay 44 = .ok (.aload_n 0, 1) := by decide +kernel
theorem dX9_replay_45 : decode cX9_replay 45 = .ok (.iconst 0, 1) := by decide +kernel
theorem dX9_replay_46 : decode cX9_replay 46 = .ok (.putfield 205, 3) := by decide +kernel
theorem dX9_replay_49 : decode cX9_replay 49 = .ok (.aload_n 0, 1) := by decide +kernel
theorem dX9_replay_50 : decode cX9_replay 50 = .ok (.iconst 0, 1) := by decide +kernel
theorem dX9_replay_51 : decode cX9_replay 51 = .ok (.putfield 208, 3) := by decide +kernel
theorem dX9_replay_54 : decode cX9_replay 54 = .ok (.iconst 0, 1) := by decide +kernel
theorem dX9_replay_55 : decode cX9_replay 55 = .ok (.istore_n 3, 1) := by decide +kernel
theorem dX9_replay_56 : decode cX9_replay 56 = .ok (.iload_n 3, 1) := by decide +kernel
theorem dX9_replay_57 : decode cX9_replay 57 = .ok (.iload_n 2, 1) := by decide +kernel
theorem dX9_replay_58 : decode cX9_replay 58 = .ok (.if_icmp .ge 34, 3) := by decide +kernel
theorem dX9_replay_61 : decode cX9_replay 61 = .ok (.aload_n 0, 1) := by decide +kernel
theorem dX9_replay_62 : decode cX9_replay 62 = .ok (.aload_n 0, 1) := by decide +kernel
theorem dX9_replay_63 : decode cX9_replay 63 = .ok (.getfield 41, 3) := by decide +kernel
theorem dX9_replay_66 : decode cX9_replay 66 = .ok (.sipush 300, 3) := by decide +kernel
theorem dX9_replay_69 : decode cX9_replay 69 = .ok (.iload_n 1, 1) := by decide +kernel
theorem dX9_replay_70 : decode cX9_replay 70 = .ok (.imul, 1) := by decide +kernel
theorem dX9_replay_71 : decode cX9_replay 71 = .ok (.iload_n 3, 1) := by decide +kernel
theorem dX9_replay_72 : decode cX9_replay 72 = .ok (.iadd, 1) := by decide +kernel
theorem dX9_replay_73 : decode cX9_replay 73 = .ok (.baload, 1) := by decide +kernel
theorem dX9_replay_74 : decode cX9_replay 74 = .ok (.aload_n 0, 1) := by decide +kernel
theorem dX9_replay_75 : decode cX9_replay 75 = .ok (.getfield 16, 3) := by decide +kernel
theorem dX9_replay_78 : decode cX9_replay 78 = .ok (.iload_n 1, 1) := by decide +kernel
theorem dX9_replay_79 : decode cX9_replay 79 = .ok (.bipush 16, 2) := by decide +kernel
theorem dX9_replay_81 : decode cX9_replay 81 = .ok (.idiv, 1) := by decide +kernel
theorem dX9_replay_82 : decode cX9_replay 82 = .ok (.iaload, 1) := by decide +kernel
theorem dX9_replay_83 : decode cX9_replay 83 = .ok (.invokevirtual 211, 3) := by decide +kernel
theorem dX9_replay_86 : decode cX9_replay 86 = .ok (.iinc 3 1, 3) := by decide +kernel
theorem dX9_replay_89 : decode cX9_replay 89 = .ok (.goto (-33), 3) := by decide +kernel
theorem dX9_replay_92 : decode cX9_replay 92 = .ok (.return_, 1) := by decide +kernel
theorem dX9_play_0 : decode cX9_play 0 = .ok (.aload_n 0, 1) := by decide +kernel
theorem dX9_play_1 : decode cX9_play 1 = .ok (.getfield 84, 3) := by decide +kernel
theorem dX9_play_4 : decode cX9_play 4 = .ok (.iconst 0, 1) := by decide +kernel
theorem dX9_play_5 : decode cX9_play 5 = .ok (.iaload, 1) := by decide +kernel
theorem dX9_play_6 : decode cX9_play 6 = .ok (.bipush 6, 2) := by decide +kernel
theorem dX9_play_8 : decode cX9_play 8 = .ok (.if_icmp .ne 18, 3) := by decide +kernel
theorem dX9_play_11 : decode cX9_play 11 = .ok (.aload_n 0, 1) := by decide +kernel
theorem dX9_play_12 : decode cX9_play 12 = .ok (.getfield 84, 3) := by decide +kernel
theorem dX9_play_15 : decode cX9_play 15 = .ok (.iconst 1, 1) := by decide +kernel
theorem dX9_play_16 : decode cX9_play 16 = .ok (.iaload, 1) := by decide +kernel
theorem dX9_play_17 : decode cX9_play 17 = .ok (.bipush 6, 2) := by decide +kernel
theorem dX9_play_19 : decode cX9_play 19 = .ok (.if_icmp .ne 7, 3) := by decide +kernel
theorem dX9_play_22 : decode cX9_play 22 = .ok (.iconst 1, 1) := by decide +kernel
theorem dX9_play_23 : decode cX9_play 23 = .ok (.goto 4, 3) := by decide +kernel
theorem dX9_play_26 : decode cX9_play 26 = .ok (.iconst 0, 1) := by decide +kernel
theorem dX9_play_27 : decode cX9_play 27 = .ok (.istore_n 3, 1) := by decide +kernel
theorem dX9_play_28 : decode cX9_play 28 = .ok (.aload_n 0, 1) := by decide +kernel
theorem dX9_play_29 : decode cX9_play 29 = .ok (.getfield 81, 3) := by decide +kernel
theorem dX9_play_32 : decode cX9_play 32 = .ok (.iload_n 1, 1) := by decide +kernel
theorem dX9_play_33 : decode cX9_play 33 = .ok (.dup2, 1) := by decide +kernel
theorem dX9_play_34 : decode cX9_play 34 = .ok (.iaload, 1) := by decide +kernel
theorem dX9_play_35 : decode cX9_play 35 = .ok (.iconst 1, 1) := by decide +kernel
theorem dX9_play_36 : decode cX9_play 36 = .ok (.iadd, 1) := by decide +kernel
theorem dX9_play_37 : decode cX9_play 37 = .ok (.iastore, 1) := by decide +kernel
theorem dX9_play_38 : decode cX9_play 38 = .ok (.aload_n 0, 1) := by decide +kernel
theorem dX9_play_39 : decode cX9_play 39 = .ok (.iconst 0, 1) := by decide +kernel
theorem dX9_play_40 : decode cX9_play 40 = .ok (.putfield 208, 3) := by decide +kernel
theorem dX9_play_43 : decode cX9_play 43 = .ok (.aload_n 0, 1) := by decide +kernel
theorem dX9_play_44 : decode cX9_play 44 = .ok (.getfield 81, 3) := by decide +kernel
theorem dX9_play_47 : decode cX9_play 47 = .ok (.iload_n 1, 1) := by decide +kernel
theorem dX9_play_48 : decode cX9_play 48 = .ok (.iaload, 1) := by decide +kernel
theorem dX9_play_49 : decode cX9_play 49 = .ok (.iload_n 3, 1) := by decide +kernel
theorem dX9_play_50 : decode cX9_play 50 = .ok (.ifCond .eq 8, 3) := by decide +kernel
theorem dX9_play_53 : decode cX9_play 53 = .ok (.bipush 7, 2) := by decide +kernel
theorem dX9_play_55 : decode cX9_play 55 = .ok (.goto 4, 3) := by decide +kernel
theorem dX9_play_58 : decode cX9_play 58 = .ok (.iconst 4, 1) := by decide +kernel
theorem dX9_play_59 : decode cX9_play 59 = .ok (.if_icmp .lt 26, 3) := by decide +kernel
theorem dX9_play_62 : decode cX9_play 62 = .ok (.aload_n 0, 1) := by decide +kernel
theorem dX9_play_63 : decode cX9_play 63 = .ok (.getfield 81, 3) := by decide +kernel
theorem dX9_play_66 : decode cX9_play 66 = .ok (.iload_n 1, 1) := by decide +kernel
theorem dX9_play_67 : decode cX9_play 67 = .ok (.iaload, 1) := by decide +kernel
theorem dX9_play_68 : decode cX9_play 68 = .ok (.aload_n 0, 1) := by decide +kernel
theorem dX9_play_69 : decode cX9_play 69 = .ok (.getfield 81, 3) := by decide +kernel
theorem dX9_play_72 : decode cX9_play 72 = .ok (.iconst 1, 1) := by decide +kernel
theorem dX9_play_73 : decode cX9_play 73 = .ok (.iload_n 1, 1) := by decide +kernel
theorem dX9_play_74 : decode cX9_play 74 = .ok (.isub, 1) := by decide +kernel
theorem dX9_play_75 : decode cX9_play 75 = .ok (.iaload, 1) := by decide +kernel
theorem dX9_play_76 : decode cX9_play 76 = .ok (.isub, 1) := by decide +kernel
theorem dX9_play_77 : decode cX9_play 77 = .ok (.iconst 2, 1) := by decide +kernel
theorem dX9_play_78 : decode cX9_play 78 = .ok (.if_icmp .lt 7, 3) := by decide +kernel
theorem dX9_play_81 : decode cX9_play 81 = .ok (.iconst 1, 1) := by decide +kernel
theorem dX9_play_82 : decode cX9_play 82 = .ok (.goto 4, 3) := by decide +kernel
theorem dX9_play_85 : decode cX9_play 85 = .ok (.iconst 0, 1) := by decide +kernel
theorem dX9_play_86 : decode cX9_play 86 = .ok (.istore 4, 2) := by decide +kernel
theorem dX9_play_88 : decode cX9_play 88 = .ok (.iload 4, 2) := by decide +kernel
theorem dX9_play_90 : decode cX9_play 90 = .ok (.ifCond .ne 37, 3) := by decide +kernel
theorem dX9_play_93 : decode cX9_play 93 = .ok (.iload_n 3, 1) := by decide +kernel
theorem dX9_play_94 : decode cX9_play 94 = .ok (.ifCond .eq 32, 3) := by decide +kernel
theorem dX9_play_97 : decode cX9_play 97 = .ok (.aload_n 0, 1) := by decide +kernel
theorem dX9_play_98 : decode cX9_play 98 = .ok (.getfield 81, 3) := by decide +kernel
theorem dX9_play_101 : decode cX9_play 101 = .ok (.iconst 0, 1) := by decide +kernel
theorem dX9_play_102 : decode cX9_play 102 = .ok (.iaload, 1) := by decide +kernel
theorem dX9_play_103 : decode cX9_play 103 = .ok (.aload_n 0, 1) := by decide +kernel
theorem dX9_play_104 : decode cX9_play 104 = .ok (.getfield 81, 3) := by decide +kernel
theorem dX9_play_107 : decode cX9_play 107 = .ok (.iconst 1, 1) := by decide +kernel
theorem dX9_play_108 : decode cX9_play 108 = .ok (.iaload, 1) := by decide +kernel
theorem dX9_play_109 : decode cX9_play 109 = .ok (.iadd, 1) := by decide +kernel
theorem dX9_play_110 : decode cX9_play 110 = .ok (.bipush 6, 2) := by decide +kernel
theorem dX9_play_112 : decode cX9_play 112 = .ok (.irem, 1) := by decide +kernel
theorem dX9_play_113 : decode cX9_play 113 = .ok (.ifCond .ne 13, 3) := by decide +kernel
theorem dX9_play_116 : decode cX9_play 116 = .ok (.aload_n 0, 1) := by decide +kernel
theorem dX9_play_117 : decode cX9_play 117 = .ok (.dup, 1) := by decide +kernel
theorem dX9_play_118 : decode cX9_play 118 = .ok (.getfield 205, 3) := by decide +kernel
theorem dX9_play_121 : decode cX9_play 121 = .ok (.iconst 1, 1) := by decide +kernel
theorem dX9_play_122 : decode cX9_play 122 = .ok (.iadd, 1) := by decide +kernel
theorem dX9_play_123 : decode cX9_play 123 = .ok (.putfield 205, 3) := by decide +kernel
theorem dX9_play_126 : decode cX9_play 126 = .ok (.return_, 1) := by decide +kernel
theorem dX9_play_127 : decode cX9_play 127 = .ok (.aload_n 0, 1) := by decide +kernel
theorem dX9_play_128 : decode cX9_play 128 = .ok (.iconst 1, 1) := by decide +kernel
theorem dX9_play_129 : decode cX9_play 129 = .ok (.putfield 208, 3) := by decide +kernel
theorem dX9_play_132 : decode cX9_play 132 = .ok (.aload_n 0, 1) := by decide +kernel
theorem dX9_play_133 : decode cX9_play 133 = .ok (.getfield 84, 3) := by decide +kernel
theorem dX9_play_136 : decode cX9_play 136 = .ok (.iload_n 1, 1) := by decide +kernel
theorem dX9_play_137 : decode cX9_play 137 = .ok (.dup2, 1) := by decide +kernel
theorem dX9_play_138 : decode cX9_play 138 = .ok (.iaload, 1) := by decide +kernel
theorem dX9_play_139 : decode cX9_play 139 = .ok (.iconst 1, 1) := by decide +kernel
theorem dX9_play_140 : decode cX9_play 140 = .ok (.iadd, 1) := by decide +kernel
theorem dX9_play_141 : decode cX9_play 141 = .ok (.iastore, 1) := by decide +kernel
theorem dX9_play_142 : decode cX9_play 142 = .ok (.aload_n 0, 1) := by decide +kernel
theorem dX9_play_143 : decode cX9_play 143 = .ok (.dup, 1) := by decide +kernel
theorem dX9_play_144 : decode cX9_play 144 = .ok (.getfield 202, 3) := by decide +kernel
theorem dX9_play_147 : decode cX9_play 147 = .ok (.iconst 1, 1) := by decide +kernel
theorem dX9_play_148 : decode cX9_play 148 = .ok (.iadd, 1) := by decide +kernel
theorem dX9_play_149 : decode cX9_play 149 = .ok (.putfield 202, 3) := by decide +kernel
theorem dX9_play_152 : decode cX9_play 152 = .ok (.aload_n 0, 1) := by decide +kernel
theorem dX9_play_153 : decode cX9_play 153 = .ok (.getfield 81, 3) := by decide +kernel
theorem dX9_play_156 : decode cX9_play 156 = .ok (.iconst 0, 1) := by decide +kernel
theorem dX9_play_157 : decode cX9_play 157 = .ok (.iconst 0, 1) := by decide +kernel
theorem dX9_play_158 : decode cX9_play 158 = .ok (.iastore, 1) := by decide +kernel
theorem dX9_play_159 : decode cX9_play 159 = .ok (.aload_n 0, 1) := by decide +kernel
theorem dX9_play_160 : decode cX9_play 160 = .ok (.getfield 81, 3) := by decide +kernel
theorem dX9_play_163 : decode cX9_play 163 = .ok (.iconst 1, 1) := by decide +kernel
theorem dX9_play_164 : decode cX9_play 164 = .ok (.iconst 0, 1) := by decide +kernel
theorem dX9_play_165 : decode cX9_play 165 = .ok (.iastore, 1) := by decide +kernel
theorem dX9_play_166 : decode cX9_play 166 = .ok (.aload_n 0, 1) := by decide +kernel
theorem dX9_play_167 : decode cX9_play 167 = .ok (.getfield 84, 3) := by decide +kernel
theorem dX9_play_170 : decode cX9_play 170 = .ok (.iconst 0, 1) := by decide +kernel
theorem dX9_play_171 : decode cX9_play 171 = .ok (.iaload, 1) := by decide +kernel
theorem dX9_play_172 : decode cX9_play 172 = .ok (.aload_n 0, 1) := by decide +kernel
theorem dX9_play_173 : decode cX9_play 173 = .ok (.getfield 84, 3) := by decide +kernel
theorem dX9_play_176 : decode cX9_play 176 = .ok (.iconst 1, 1) := by decide +kernel
theorem dX9_play_177 : decode cX9_play 177 = .ok (.iaload, 1) := by decide +kernel
theorem dX9_play_178 : decode cX9_play 178 = .ok (.iadd, 1) := by decide +kernel
theorem dX9_play_179 : decode cX9_play 179 = .ok (.iconst 2, 1) := by decide +kernel
theorem dX9_play_180 : decode cX9_play 180 = .ok (.irem, 1) := by decide +kernel
theorem dX9_play_181 : decode cX9_play 181 = .ok (.iconst 1, 1) := by decide +kernel
theorem dX9_play_182 : decode cX9_play 182 = .ok (.if_icmp .ne 13, 3) := by decide +kernel
theorem dX9_play_185 : decode cX9_play 185 = .ok (.aload_n 0, 1) := by decide +kernel
theorem dX9_play_186 : decode cX9_play 186 = .ok (.dup, 1) := by decide +kernel
theorem dX9_play_187 : decode cX9_play 187 = .ok (.getfield 205, 3) := by decide +kernel
theorem dX9_play_190 : decode cX9_play 190 = .ok (.iconst 1, 1) := by decide +kernel
theorem dX9_play_191 : decode cX9_play 191 = .ok (.iadd, 1) := by decide +kernel
theorem dX9_play_192 : decode cX9_play 192 = .ok (.putfield 205, 3) := by decide +kernel
theorem dX9_play_195 : decode cX9_play 195 = .ok (.iload_n 3, 1) := by decide +kernel
theorem dX9_play_196 : decode cX9_play 196 = .ok (.ifCond .ne 34, 3) := by decide +kernel
theorem dX9_play_199 : decode cX9_play 199 = .ok (.aload_n 0, 1) := by decide +kernel
theorem dX9_play_200 : decode cX9_play 200 = .ok (.getfield 84, 3) := by decide +kernel
theorem dX9_play_203 : decode cX9_play 203 = .ok (.iload_n 1, 1) := by decide +kernel
theorem dX9_play_204 : decode cX9_play 204 = .ok (.iaload, 1) := by decide +kernel
theorem dX9_play_205 : decode cX9_play 205 = .ok (.bipush 6, 2) := by decide +kernel
theorem dX9_play_207 : decode cX9_play 207 = .ok (.if_icmp .lt 22, 3) := by decide +kernel
theorem dX9_play_210 : decode cX9_play 210 = .ok (.aload_n 0, 1) := by decide +kernel
theorem dX9_play_211 : decode cX9_play 211 = .ok (.getfield 84, 3) := by decide +kernel
theorem dX9_play_214 : decode cX9_play 214 = .ok (.iload_n 1, 1) := by decide +kernel
theorem dX9_play_215 : decode cX9_play 215 = .ok (.iaload, 1) := by decide +kernel
theorem dX9_play_216 : decode cX9_play 216 = .ok (.aload_n 0, 1) := by decide +kernel
theorem dX9_play_217 : decode cX9_play 217 = .ok (.getfield 84, 3) := by decide +kernel
theorem dX9_play_220 : decode cX9_play 220 = .ok (.iconst 1, 1) := by decide +kernel
theorem dX9_play_221 : decode cX9_play 221 = .ok (.iload_n 1, 1) := by decide +kernel
theorem dX9_play_222 : decode cX9_play 222 = .ok (.isub, 1) := by decide +kernel
theorem dX9_play_223 : decode cX9_play 223 = .ok (.iaload, 1) := by decide +kernel
theorem dX9_play_224 : decode cX9_play 224 = .ok (.isub, 1) := by decide +kernel
theorem dX9_play_225 : decode cX9_play 225 = .ok (.iconst 2, 1) := by decide +kernel
theorem dX9_play_226 : decode cX9_play 226 = .ok (.if_icmp .ge 4, 3) := by decide +kernel
theorem dX9_play_229 : decode cX9_play 229 = .ok (.return_, 1) := by decide +kernel
theorem dX9_play_230 : decode cX9_play 230 = .ok (.aload_n 0, 1) := by decide +kernel
theorem dX9_play_231 : decode cX9_play 231 = .ok (.iconst 2, 1) := by decide +kernel
theorem dX9_play_232 : decode cX9_play 232 = .ok (.putfield 208, 3) := by decide +kernel
theorem dX9_play_235 : decode cX9_play 235 = .ok (.aload_n 0, 1) := by decide +kernel
theorem dX9_play_236 : decode cX9_play 236 = .ok (.getfield 90, 3) := by decide +kernel
theorem dX9_play_239 : decode cX9_play 239 = .ok (.iconst 2, 1) := by decide +kernel
theorem dX9_play_240 : decode cX9_play 240 = .ok (.aload_n 0, 1) := by decide +kernel
theorem dX9_play_241 : decode cX9_play 241 = .ok (.getfield 199, 3) := by decide +kernel
theorem dX9_play_244 : decode cX9_play 244 = .ok (.imul, 1) := by decide +kernel
theorem dX9_play_245 : decode cX9_play 245 = .ok (.aload_n 0, 1) := by decide +kernel
theorem dX9_play_246 : decode cX9_play 246 = .ok (.getfield 84, 3) := by decide +kernel
theorem dX9_play_249 : decode cX9_play 249 = .ok (.iconst 0, 1) := by decide +kernel
theorem dX9_play_250 : decode cX9_play 250 = .ok (.iaload, 1) := by decide +kernel
theorem dX9_play_251 : decode cX9_play 251 = .ok (.iastore, 1) := by decide +kernel
theorem dX9_play_252 : decode cX9_play 252 = .ok (.aload_n 0, 1) := by decide +kernel
theorem dX9_play_253 : decode cX9_play 253 = .ok (.getfield 90, 3) := by decide +kernel
theorem dX9_play_256 : decode cX9_play 256 = .ok (.iconst 2, 1) := by decide +kernel
theorem dX9_play_257 : decode cX9_play 257 = .ok (.aload_n 0, 1) := by decide +kernel
theorem dX9_play_258 : decode cX9_play 258 = .ok (.getfield 199, 3) := by decide +kernel
theorem dX9_play_261 : decode cX9_play 261 = .ok (.imul, 1) := by decide +kernel
theorem dX9_play_262 : decode cX9_play 262 = .ok (.iconst 1, 1) := by decide +kernel
theorem dX9_play_263 : decode cX9_play 263 = .ok (.iadd, 1) := by decide +kernel
theorem dX9_play_264 : decode cX9_play 264 = .ok (.aload_n 0, 1) := by decide +kernel
theorem dX9_play_265 : decode cX9_play 265 = .ok (.getfield 84, 3) := by decide +kernel
theorem dX9_play_268 : decode cX9_play 268 = .ok (.iconst 1, 1) := by decide +kernel
theorem dX9_play_269 : decode cX9_play 269 = .ok (.iaload, 1) := by decide +kernel
theorem dX9_play_270 : decode cX9_play 270 = .ok (.iastore, 1) := by decide +kernel
theorem dX9_play_271 : decode cX9_play 271 = .ok (.aload_n 0, 1) := by decide +kernel
theorem dX9_play_272 : decode cX9_play 272 = .ok (.dup, 1) := by decide +kernel
theorem dX9_play_273 : decode cX9_play 273 = .ok (.getfield 199, 3) := by decide +kernel
theorem dX9_play_276 : decode cX9_play 276 = .ok (.iconst 1, 1) := by decide +kernel
theorem dX9_play_277 : decode cX9_play 277 = .ok (.iadd, 1) := by decide +kernel
theorem dX9_play_278 : decode cX9_play 278 = .ok (.putfield 199, 3) := by decide +kernel
theorem dX9_play_281 : decode cX9_play 281 = .ok (.aload_n 0, 1) := by decide +kernel
theorem dX9_play_282 : decode cX9_play 282 = .ok (.getfield 84, 3) := by decide +kernel
theorem dX9_play_285 : decode cX9_play 285 = .ok (.iconst 0, 1) := by decide +kernel
theorem dX9_play_286 : decode cX9_play 286 = .ok (.iconst 0, 1) := by decide +kernel
theorem dX9_play_287 : decode cX9_play 287 = .ok (.iastore, 1) := by decide +kernel
theorem dX9_play_288 : decode cX9_play 288 = .ok (.aload_n 0, 1) := by decide +kernel
theorem dX9_play_289 : decode cX9_play 289 = .ok (.getfield 84, 3) := by decide +kernel
theorem dX9_play_292 : decode cX9_play 292 = .ok (.iconst 1, 1) := by decide +kernel
theorem dX9_play_293 : decode cX9_play 293 = .ok (.iconst 0, 1) := by decide +kernel
theorem dX9_play_294 : decode cX9_play 294 = .ok (.iastore, 1) := by decide +kernel
theorem dX9_play_295 : decode cX9_play 295 = .ok (.aload_n 0, 1) := by decide +kernel
theorem dX9_play_296 : decode cX9_play 296 = .ok (.getfield 87, 3) := by decide +kernel
theorem dX9_play_299 : decode cX9_play 299 = .ok (.iload_n 1, 1) := by decide +kernel
theorem dX9_play_300 : decode cX9_play 300 = .ok (.dup2, 1) := by decide +kernel
theorem dX9_play_301 : decode cX9_play 301 = .ok (.iaload, 1) := by decide +kernel
theorem dX9_play_302 : decode cX9_play 302 = .ok (.iconst 1, 1) := by decide +kernel
theorem dX9_play_303 : decode cX9_play 303 = .ok (.iadd, 1) := by decide +kernel
theorem dX9_play_304 : decode cX9_play 304 = .ok (.iastore, 1) := by decide +kernel
theorem dX9_play_305 : decode cX9_play 305 = .ok (.aload_n 0, 1) := by decide +kernel
theorem dX9_play_306 : decode cX9_play 306 = .ok (.getfield 87, 3) := by decide +kernel
theorem dX9_play_309 : decode cX9_play 309 = .ok (.iload_n 1, 1) := by decide +kernel
theorem dX9_play_310 : decode cX9_play 310 = .ok (.iaload, 1) := by decide +kernel
theorem dX9_play_311 : decode cX9_play 311 = .ok (.iload_n 2, 1) := by decide +kernel
theorem dX9_play_312 : decode cX9_play 312 = .ok (.if_icmp .ne 8, 3) := by decide +kernel
theorem dX9_play_315 : decode cX9_play 315 = .ok (.aload_n 0, 1) := by decide +kernel
theorem dX9_play_316 : decode cX9_play 316 = .ok (.iconst 3, 1) := by decide +kernel
theorem dX9_play_317 : decode cX9_play 317 = .ok (.putfield 208, 3) := by decide +kernel
theorem dX9_play_320 : decode cX9_play 320 = .ok (.return_, 1) := by decide +kernel
theorem dX9_point_0 : decode cX9_point 0 = .ok (.aload_n 0, 1) := by decide +kernel
theorem dX9_point_1 : decode cX9_point 1 = .ok (.iload_n 1, 1) := by decide +kernel
theorem dX9_point_2 : decode cX9_point 2 = .ok (.invokevirtual 191, 3) := by decide +kernel
theorem dX9_point_5 : decode cX9_point 5 = .ok (.ifCond .eq 12, 3) := by decide +kernel
theorem dX9_point_8 : decode cX9_point 8 = .ok (.iload_n 2, 1) := by decide +kernel
theorem dX9_point_9 : decode cX9_point 9 = .ok (.iconst 0, 1) := by decide +kernel
theorem dX9_point_10 : decode cX9_point 10 = .ok (.iconst 1, 1) := by decide +kernel
theorem dX9_point_11 : decode cX9_point 11 = .ok (.invokestatic 111, 3) := by decide +kernel
theorem dX9_point_14 : decode cX9_point 14 = .ok (.ifCond .ne 5, 3) := by decide +kernel
theorem dX9_point_17 : decode cX9_point 17 = .ok (.iconst (-1), 1) := by decide +kernel
theorem dX9_point_18 : decode cX9_point 18 = .ok (.ireturn, 1) := by decide +kernel
theorem dX9_point_19 : decode cX9_point 19 = .ok (.aload_n 0, 1) := by decide +kernel
theorem dX9_point_20 : decode cX9_point 20 = .ok (.iload_n 1, 1) := by decide +kernel
theorem dX9_point_21 : decode cX9_point 21 = .ok (.invokevirtual 161, 3) := by decide +kernel
theorem dX9_point_24 : decode cX9_point 24 = .ok (.ifCond .eq 6, 3) := by decide +kernel
theorem dX9_point_27 : decode cX9_point 27 = .ok (.bipush (-6), 2) := by decide +kernel
theorem dX9_point_29 : decode cX9_point 29 = .ok (.ireturn, 1) := by decide +kernel
theorem dX9_point_30 : decode cX9_point 30 = .ok (.aload_n 0, 1) := by decide +kernel
theorem dX9_point_31 : decode cX9_point 31 = .ok (.iload_n 1, 1) := by decide +kernel
theorem dX9_point_32 : decode cX9_point 32 = .ok (.invokevirtual 214, 3) := by decide +kernel
theorem dX9_point_35 : decode cX9_point 35 = .ok (.ifCond .ne 6, 3) := by decide +kernel
theorem dX9_point_38 : decode cX9_point 38 = .ok (.bipush (-5), 2) := by decide +kernel
theorem dX9_point_40 : decode cX9_point 40 = .ok (.ireturn, 1) := by decide +kernel
theorem dX9_point_41 : decode cX9_point 41 = .ok (.aload_n 0, 1) := by decide +kernel
theorem dX9_point_42 : decode cX9_point 42 = .ok (.getfield 38, 3) := by decide +kernel
theorem dX9_point_45 : decode cX9_point 45 = .ok (.iload_n 1, 1) := by decide +kernel
theorem dX9_point_46 : decode cX9_point 46 = .ok (.iaload, 1) := by decide +kernel
theorem dX9_point_47 : decode cX9_point 47 = .ok (.sipush 300, 3) := by decide +kernel
theorem dX9_point_50 : decode cX9_point 50 = .ok (.if_icmp .ne 6, 3) := by decide +kernel
theorem dX9_point_53 : decode cX9_point 53 = .ok (.bipush (-2), 2) := by decide +kernel
theorem dX9_point_55 : decode cX9_point 55 = .ok (.ireturn, 1) := by decide +kernel
theorem dX9_point_56 : decode cX9_point 56 = .ok (.aload_n 0, 1) := by decide +kernel
theorem dX9_point_57 : decode cX9_point 57 = .ok (.getfield 41, 3) := by decide +kernel
theorem dX9_point_60 : decode cX9_point 60 = .ok (.sipush 300, 3) := by decide +kernel
theorem dX9_point_63 : decode cX9_point 63 = .ok (.iload_n 1, 1) := by decide +kernel
theorem dX9_point_64 : decode cX9_point 64 = .ok (.imul, 1) := by decide +kernel
theorem dX9_point_65 : decode cX9_point 65 = .ok (.aload_n 0, 1) := by decide +kernel
theorem dX9_point_66 : decode cX9_point 66 = .ok (.getfield 38, 3) := by decide +kernel
theorem dX9_point_69 : decode cX9_point 69 = .ok (.iload_n 1, 1) := by decide +kernel
theorem dX9_point_70 : decode cX9_point 70 = .ok (.iaload, 1) := by decide +kernel
theorem dX9_point_71 : decode cX9_point 71 = .ok (.iadd, 1) := by decide +kernel
theorem dX9_point_72 : decode cX9_point 72 = .ok (.iload_n 2, 1) := by decide +kernel
theorem dX9_point_73 : decode cX9_point 73 = .ok (.i2b, 1) := by decide +kernel
theorem dX9_point_74 : decode cX9_point 74 = .ok (.bastore, 1) := by decide +kernel
theorem dX9_point_75 : decode cX9_point 75 = .ok (.aload_n 0, 1) := by decide +kernel
theorem dX9_point_76 : decode cX9_point 76 = .ok (.getfield 38, 3) := by decide +kernel
theorem dX9_point_79 : decode cX9_point 79 = .ok (.iload_n 1, 1) := by decide +kernel
theorem dX9_point_80 : decode cX9_point 80 = .ok (.dup2, 1) := by decide +kernel
theorem dX9_point_81 : decode cX9_point 81 = .ok (.iaload, 1) := by decide +kernel
theorem dX9_point_82 : decode cX9_point 82 = .ok (.iconst 1, 1) := by decide +kernel
theorem dX9_point_83 : decode cX9_point 83 = .ok (.iadd, 1) := by decide +kernel
theorem dX9_point_84 : decode cX9_point 84 = .ok (.iastore, 1) := by decide +kernel
theorem dX9_point_85 : decode cX9_point 85 = .ok (.aload_n 0, 1) := by decide +kernel
theorem dX9_point_86 : decode cX9_point 86 = .ok (.iload_n 1, 1) := by decide +kernel
theorem dX9_point_87 : decode cX9_point 87 = .ok (.aload_n 0, 1) := by decide +kernel
theorem dX9_point_88 : decode cX9_point 88 = .ok (.getfield 38, 3) := by decide +kernel
theorem dX9_point_91 : decode cX9_point 91 = .ok (.iload_n 1, 1) := by decide +kernel
theorem dX9_point_92 : decode cX9_point 92 = .ok (.iaload, 1) := by decide +kernel
theorem dX9_point_93 : decode cX9_point 93 = .ok (.invokevirtual 188, 3) := by decide +kernel
theorem dX9_point_96 : decode cX9_point 96 = .ok (.aload_n 0, 1) := by decide +kernel
theorem dX9_point_97 : decode cX9_point 97 = .ok (.getfield 208, 3) := by decide +kernel
theorem dX9_point_100 : decode cX9_point 100 = .ok (.ireturn, 1) := by decide +kernel
theorem dX9_isLater_0 : decode cX9_isLater 0 = .ok (.aload_n 0, 1) := by decide +kernel
theorem dX9_isLater_1 : decode cX9_isLater 1 = .ok (.iload_n 1, 1) := by decide +kernel
theorem dX9_isLater_2 : decode cX9_isLater 2 = .ok (.invokevirtual 217, 3) := by decide +kernel
theorem dX9_isLater_5 : decode cX9_isLater 5 = .ok (.istore_n 2, 1) := by decide +kernel
theorem dX9_isLater_6 : decode cX9_isLater 6 = .ok (.iload_n 2, 1) := by decide +kernel
theorem dX9_isLater_7 : decode cX9_isLater 7 = .ok (.ifCond .lt 24, 3) := by decide +kernel
theorem dX9_isLater_10 : decode cX9_isLater 10 = .ok (.aload_n 0, 1) := by decide +kernel
theorem dX9_isLater_11 : decode cX9_isLater 11 = .ok (.getfield 38, 3) := by decide +kernel
theorem dX9_isLater_14 : decode cX9_isLater 14 = .ok (.iload_n 2, 1) := by decide +kernel
theorem dX9_isLater_15 : decode cX9_isLater 15 = .ok (.iaload, 1) := by decide +kernel
theorem dX9_isLater_16 : decode cX9_isLater 16 = .ok (.ifCond .gt 11, 3) := by decide +kernel
theorem dX9_isLater_19 : decode cX9_isLater 19 = .ok (.aload_n 0, 1) := by decide +kernel
theorem dX9_isLater_20 : decode cX9_isLater 20 = .ok (.iload_n 2, 1) := by decide +kernel
theorem dX9_isLater_21 : decode cX9_isLater 21 = .ok (.invokevirtual 161, 3) := by decide +kernel
theorem dX9_isLater_24 : decode cX9_isLater 24 = .ok (.ifCond .eq 7, 3) := by decide +kernel
theorem dX9_isLater_27 : decode cX9_isLater 27 = .ok (.iconst 1, 1) := by decide +kernel
theorem dX9_isLater_28 : decode cX9_isLater 28 = .ok (.goto 4, 3) := by decide +kernel
theorem dX9_isLater_31 : decode cX9_isLater 31 = .ok (.iconst 0, 1) := by decide +kernel
theorem dX9_isLater_32 : decode cX9_isLater 32 = .ok (.ireturn, 1) := by decide +kernel
theorem dX9_back_0 : decode cX9_back 0 = .ok (.aload_n 0, 1) := by decide +kernel
theorem dX9_back_1 : decode cX9_back 1 = .ok (.iload_n 1, 1) := by decide +kernel
theorem dX9_back_2 : decode cX9_back 2 = .ok (.invokevirtual 191, 3) := by decide +kernel
theorem dX9_back_5 : decode cX9_back 5 = .ok (.ifCond .ne 5, 3) := by decide +kernel
theorem dX9_back_8 : decode cX9_back 8 = .ok (.iconst (-1), 1) := by decide +kernel
theorem dX9_back_9 : decode cX9_back 9 = .ok (.ireturn, 1) := by decide +kernel
theorem dX9_back_10 : decode cX9_back 10 = .ok (.aload_n 0, 1) := by decide +kernel
theorem dX9_back_11 : decode cX9_back 11 = .ok (.iload_n 1, 1) := by decide +kernel
theorem dX9_back_12 : decode cX9_back 12 = .ok (.invokevirtual 161, 3) := by decide +kernel
theorem dX9_back_15 : decode cX9_back 15 = .ok (.istore_n 2, 1) := by decide +kernel
theorem dX9_back_16 : decode cX9_back 16 = .ok (.iload_n 2, 1) := by decide +kernel
theorem dX9_back_17 : decode cX9_back 17 = .ok (.ifCond .eq 23, 3) := by decide +kernel
theorem dX9_back_20 : decode cX9_back 20 = .ok (.aload_n 0, 1) := by decide +kernel
theorem dX9_back_21 : decode cX9_back 21 = .ok (.getfield 45, 3) := by decide +kernel
theorem dX9_back_24 : decode cX9_back 24 = .ok (.iload_n 1, 1) := by decide +kernel
theorem dX9_back_25 : decode cX9_back 25 = .ok (.iaload, 1) := by decide +kernel
theorem dX9_back_26 : decode cX9_back 26 = .ok (.ifCond .ne 11, 3) := by decide +kernel
theorem dX9_back_29 : decode cX9_back 29 = .ok (.aload_n 0, 1) := by decide +kernel
theorem dX9_back_30 : decode cX9_back 30 = .ok (.iload_n 1, 1) := by decide +kernel
theorem dX9_back_31 : decode cX9_back 31 = .ok (.invokevirtual 176, 3) := by decide +kernel
theorem dX9_back_34 : decode cX9_back 34 = .ok (.ifCond .eq 6, 3) := by decide +kernel
theorem dX9_back_37 : decode cX9_back 37 = .ok (.bipush (-6), 2) := by decide +kernel
theorem dX9_back_39 : decode cX9_back 39 = .ok (.ireturn, 1) := by decide +kernel
theorem dX9_back_40 : decode cX9_back 40 = .ok (.aload_n 0, 1) := by decide +kernel
theorem dX9_back_41 : decode cX9_back 41 = .ok (.getfield 38, 3) := by decide +kernel
theorem dX9_back_44 : decode cX9_back 44 = .ok (.iload_n 1, 1) := by decide +kernel
theorem dX9_back_45 : decode cX9_back 45 = .ok (.iaload, 1) := by decide +kernel
theorem dX9_back_46 : decode cX9_back 46 = .ok (.ifCond .ne 6, 3) := by decide +kernel
theorem dX9_back_49 : decode cX9_back 49 = .ok (.bipush (-5), 2) := by decide +kernel
theorem dX9_back_51 : decode cX9_back 51 = .ok (.ireturn, 1) := by decide +kernel
theorem dX9_back_52 : decode cX9_back 52 = .ok (.iload_n 2, 1) := by decide +kernel
theorem dX9_back_53 : decode cX9_back 53 = .ok (.ifCond .eq 14, 3) := by decide +kernel
theorem dX9_back_56 : decode cX9_back 56 = .ok (.aload_n 0, 1) := by decide +kernel
theorem dX9_back_57 : decode cX9_back 57 = .ok (.iload_n 1, 1) := by decide +kernel
theorem dX9_back_58 : decode cX9_back 58 = .ok (.invokevirtual 220, 3) := by decide +kernel
theorem dX9_back_61 : decode cX9_back 61 = .ok (.ifCond .eq 6, 3) := by decide +kernel
theorem dX9_back_64 : decode cX9_back 64 = .ok (.bipush (-7), 2) := by decide +kernel
theorem dX9_back_66 : decode cX9_back 66 = .ok (.ireturn, 1) := by decide +kernel
theorem dX9_back_67 : decode cX9_back 67 = .ok (.aload_n 0, 1) := by decide +kernel
theorem dX9_back_68 : decode cX9_back 68 = .ok (.getfield 38, 3) := by decide +kernel
theorem dX9_back_71 : decode cX9_back 71 = .ok (.iload_n 1, 1) := by decide +kernel
theorem dX9_back_72 : decode cX9_back 72 = .ok (.dup2, 1) := by decide +kernel
theorem dX9_back_73 : decode cX9_back 73 = .ok (.iaload, 1) := by decide +kernel
theorem dX9_back_74 : decode cX9_back 74 = .ok (.iconst 1, 1) := by decide +kernel
theorem dX9_back_75 : decode cX9_back 75 = .ok (.isub, 1) := by decide +kernel
theorem dX9_back_76 : decode cX9_back 76 = .ok (.iastore, 1) := by decide +kernel
theorem dX9_back_77 : decode cX9_back 77 = .ok (.iload_n 2, 1) := by decide +kernel
theorem dX9_back_78 : decode cX9_back 78 = .ok (.ifCond .eq 10, 3) := by decide +kernel
theorem dX9_back_81 : decode cX9_back 81 = .ok (.aload_n 0, 1) := by decide +kernel
theorem dX9_back_82 : decode cX9_back 82 = .ok (.getfield 51, 3) := by decide +kernel
theorem dX9_back_85 : decode cX9_back 85 = .ok (.iload_n 1, 1) := by decide +kernel
theorem dX9_back_86 : decode cX9_back 86 = .ok (.iconst (-1), 1) := by decide +kernel
theorem dX9_back_87 : decode cX9_back 87 = .ok (.iastore, 1) := by decide +kernel
theorem dX9_back_88 : decode cX9_back 88 = .ok (.aload_n 0, 1) := by decide +kernel
theorem dX9_back_89 : decode cX9_back 89 = .ok (.getfield 38, 3) := by decide +kernel
theorem dX9_back_92 : decode cX9_back 92 = .ok (.iload_n 1, 1) := by decide +kernel
theorem dX9_back_93 : decode cX9_back 93 = .ok (.iaload, 1) := by decide +kernel
theorem dX9_back_94 : decode cX9_back 94 = .ok (.ireturn, 1) := by decide +kernel
theorem dX9_ends_0 : decode cX9_ends 0 = .ok (.aload_n 0, 1) := by decide +kernel
theorem dX9_ends_1 : decode cX9_ends 1 = .ok (.iload_n 1, 1) := by decide +kernel
theorem dX9_ends_2 : decode cX9_ends 2 = .ok (.invokevirtual 191, 3) := by decide +kernel
theorem dX9_ends_5 : decode cX9_ends 5 = .ok (.ifCond .eq 12, 3) := by decide +kernel
theorem dX9_ends_8 : decode cX9_ends 8 = .ok (.iload_n 2, 1) := by decide +kernel
theorem dX9_ends_9 : decode cX9_ends 9 = .ok (.iconst 0, 1) := by decide +kernel
theorem dX9_ends_10 : decode cX9_ends 10 = .ok (.iconst 1, 1) := by decide +kernel
theorem dX9_ends_11 : decode cX9_ends 11 = .ok (.invokestatic 111, 3) := by decide +kernel
theorem dX9_ends_14 : decode cX9_ends 14 = .ok (.ifCond .ne 5, 3) := by decide +kernel
theorem dX9_ends_17 : decode cX9_ends 17 = .ok (.iconst (-1), 1) := by decide +kernel
theorem dX9_ends_18 : decode cX9_ends 18 = .ok (.ireturn, 1) := by decide +kernel
theorem dX9_ends_19 : decode cX9_ends 19 = .ok (.aload_n 0, 1) := by decide +kernel
theorem dX9_ends_20 : decode cX9_ends 20 = .ok (.iload_n 1, 1) := by decide +kernel
theorem dX9_ends_21 : decode cX9_ends 21 = .ok (.invokevirtual 161, 3) := by decide +kernel
theorem dX9_ends_24 : decode cX9_ends 24 = .ok (.ifCond .eq 6, 3) := by decide +kernel
theorem dX9_ends_27 : decode cX9_ends 27 = .ok (.bipush (-6), 2) := by decide +kernel
theorem dX9_ends_29 : decode cX9_ends 29 = .ok (.ireturn, 1) := by decide +kernel
theorem dX9_ends_30 : decode cX9_ends 30 = .ok (.aload_n 0, 1) := by decide +kernel
theorem dX9_ends_31 : decode cX9_ends 31 = .ok (.iload_n 1, 1) := by decide +kernel
theorem dX9_ends_32 : decode cX9_ends 32 = .ok (.invokevirtual 214, 3) := by decide +kernel
theorem dX9_ends_35 : decode cX9_ends 35 = .ok (.ifCond .ne 6, 3) := by decide +kernel
theorem dX9_ends_38 : decode cX9_ends 38 = .ok (.bipush (-5), 2) := by decide +kernel
theorem dX9_ends_40 : decode cX9_ends 40 = .ok (.ireturn, 1) := by decide +kernel
theorem dX9_ends_41 : decode cX9_ends 41 = .ok (.aload_n 0, 1) := by decide +kernel
theorem dX9_ends_42 : decode cX9_ends 42 = .ok (.getfield 38, 3) := by decide +kernel
theorem dX9_ends_45 : decode cX9_ends 45 = .ok (.iload_n 1, 1) := by decide +kernel
theorem dX9_ends_46 : decode cX9_ends 46 = .ok (.iaload, 1) := by decide +kernel
theorem dX9_ends_47 : decode cX9_ends 47 = .ok (.ifCond .le 7, 3) := by decide +kernel
theorem dX9_ends_50 : decode cX9_ends 50 = .ok (.iconst 1, 1) := by decide +kernel
theorem dX9_ends_51 : decode cX9_ends 51 = .ok (.goto 4, 3) := by decide +kernel
theorem dX9_ends_54 : decode cX9_ends 54 = .ok (.iconst 0, 1) := by decide +kernel
theorem dX9_ends_55 : decode cX9_ends 55 = .ok (.iload 4, 2) := by decide +kernel
theorem dX9_ends_57 : decode cX9_ends 57 = .ok (.if_icmp .eq 6, 3) := by decide +kernel
theorem dX9_ends_60 : decode cX9_ends 60 = .ok (.bipush (-4), 2) := by decide +kernel
theorem dX9_ends_62 : decode cX9_ends 62 = .ok (.ireturn, 1) := by decide +kernel
theorem dX9_ends_63 : decode cX9_ends 63 = .ok (.aload_n 0, 1) := by decide +kernel
theorem dX9_ends_64 : decode cX9_ends 64 = .ok (.getfield 45, 3) := by decide +kernel
theorem dX9_ends_67 : decode cX9_ends 67 = .ok (.iload_n 1, 1) := by decide +kernel
theorem dX9_ends_68 : decode cX9_ends 68 = .ok (.iload_n 3, 1) := by decide +kernel
theorem dX9_ends_69 : decode cX9_ends 69 = .ok (.iastore, 1) := by decide +kernel
theorem dX9_ends_70 : decode cX9_ends 70 = .ok (.aload_n 0, 1) := by decide +kernel
theorem dX9_ends_71 : decode cX9_ends 71 = .ok (.getfield 48, 3) := by decide +kernel
theorem dX9_ends_74 : decode cX9_ends 74 = .ok (.iload_n 1, 1) := by decide +kernel
theorem dX9_ends_75 : decode cX9_ends 75 = .ok (.iload_n 2, 1) := by decide +kernel
theorem dX9_ends_76 : decode cX9_ends 76 = .ok (.iastore, 1) := by decide +kernel
theorem dX9_ends_77 : decode cX9_ends 77 = .ok (.iconst 1, 1) := by decide +kernel
theorem dX9_ends_78 : decode cX9_ends 78 = .ok (.ireturn, 1) := by decide +kernel
theorem dX9_walk_0 : decode cX9_walk 0 = .ok (.aload_n 0, 1) := by decide +kernel
theorem dX9_walk_1 : decode cX9_walk 1 = .ok (.iload_n 1, 1) := by decide +kernel
theorem dX9_walk_2 : decode cX9_walk 2 = .ok (.iload_n 2, 1) := by decide +kernel
theorem dX9_walk_3 : decode cX9_walk 3 = .ok (.iconst 4, 1) := by decide +kernel
theorem dX9_walk_4 : decode cX9_walk 4 = .ok (.iconst 0, 1) := by decide +kernel
theorem dX9_walk_5 : decode cX9_walk 5 = .ok (.invokevirtual 223, 3) := by decide +kernel
theorem dX9_walk_8 : decode cX9_walk 8 = .ok (.ireturn, 1) := by decide +kernel
theorem dX9_retire_0 : decode cX9_retire 0 = .ok (.aload_n 0, 1) := by decide +kernel
theorem dX9_retire_1 : decode cX9_retire 1 = .ok (.iload_n 1, 1) := by decide +kernel
theorem dX9_retire_2 : decode cX9_retire 2 = .ok (.iconst 1, 1) := by decide +kernel
theorem dX9_retire_3 : decode cX9_retire 3 = .ok (.iload_n 2, 1) := by decide +kernel
theorem dX9_retire_4 : decode cX9_retire 4 = .ok (.isub, 1) := by decide +kernel
theorem dX9_retire_5 : decode cX9_retire 5 = .ok (.iconst 5, 1) := by decide +kernel
theorem dX9_retire_6 : decode cX9_retire 6 = .ok (.iconst 1, 1) := by decide +kernel
theorem dX9_retire_7 : decode cX9_retire 7 = .ok (.invokevirtual 223, 3) := by decide +kernel
theorem dX9_retire_10 : decode cX9_retire 10 = .ok (.ireturn, 1) := by decide +kernel
theorem dX9_undo_0 : decode cX9_undo 0 = .ok (.aload_n 0, 1) := by decide +kernel
theorem dX9_undo_1 : decode cX9_undo 1 = .ok (.iload_n 1, 1) := by decide +kernel
theorem dX9_undo_2 : decode cX9_undo 2 = .ok (.invokevirtual 191, 3) := by decide +kernel
theorem dX9_undo_5 : decode cX9_undo 5 = .ok (.ifCond .ne 5, 3) := by decide +kernel
theorem dX9_undo_8 : decode cX9_undo 8 = .ok (.iconst (-1), 1) := by decide +kernel
theorem dX9_undo_9 : decode cX9_undo 9 = .ok (.ireturn, 1) := by decide +kernel
theorem dX9_undo_10 : decode cX9_undo 10 = .ok (.aload_n 0, 1) := by decide +kernel
theorem dX9_undo_11 : decode cX9_undo 11 = .ok (.getfield 45, 3) := by decide +kernel
theorem dX9_undo_14 : decode cX9_undo 14 = .ok (.iload_n 1, 1) := by decide +kernel
theorem dX9_undo_15 : decode cX9_undo 15 = .ok (.iaload, 1) := by decide +kernel
theorem dX9_undo_16 : decode cX9_undo 16 = .ok (.ifCond .ne 6, 3) := by decide +kernel
theorem dX9_undo_19 : decode cX9_undo 19 = .ok (.bipush (-6), 2) := by decide +kernel
theorem dX9_undo_21 : decode cX9_undo 21 = .ok (.ireturn, 1) := by decide +kernel
theorem dX9_undo_22 : decode cX9_undo 22 = .ok (.aload_n 0, 1) := by decide +kernel
theorem dX9_undo_23 : decode cX9_undo 23 = .ok (.iload_n 1, 1) := by decide +kernel
theorem dX9_undo_24 : decode cX9_undo 24 = .ok (.invokevirtual 220, 3) := by decide +kernel
theorem dX9_undo_27 : decode cX9_undo 27 = .ok (.ifCond .eq 6, 3) := by decide +kernel
theorem dX9_undo_30 : decode cX9_undo 30 = .ok (.bipush (-7), 2) := by decide +kernel
theorem dX9_undo_32 : decode cX9_undo 32 = .ok (.ireturn, 1) := by decide +kernel
theorem dX9_undo_33 : decode cX9_undo 33 = .ok (.aload_n 0, 1) := by decide +kernel
theorem dX9_undo_34 : decode cX9_undo 34 = .ok (.getfield 45, 3) := by decide +kernel
theorem dX9_undo_37 : decode cX9_undo 37 = .ok (.iload_n 1, 1) := by decide +kernel
theorem dX9_undo_38 : decode cX9_undo 38 = .ok (.iconst 0, 1) := by decide +kernel
theorem dX9_undo_39 : decode cX9_undo 39 = .ok (.iastore, 1) := by decide +kernel
theorem dX9_undo_40 : decode cX9_undo 40 = .ok (.aload_n 0, 1) := by decide +kernel
theorem dX9_undo_41 : decode cX9_undo 41 = .ok (.getfield 51, 3) := by decide +kernel
theorem dX9_undo_44 : decode cX9_undo 44 = .ok (.iload_n 1, 1) := by decide +kernel
theorem dX9_undo_45 : decode cX9_undo 45 = .ok (.iconst (-1), 1) := by decide +kernel
theorem dX9_undo_46 : decode cX9_undo 46 = .ok (.iastore, 1) := by decide +kernel
theorem dX9_undo_47 : decode cX9_undo 47 = .ok (.iconst 1, 1) := by decide +kernel
theorem dX9_undo_48 : decode cX9_undo 48 = .ok (.ireturn, 1) := by decide +kernel
theorem dX9_score_0 : decode cX9_score 0 = .ok (.aload_n 0, 1) := by decide +kernel
theorem dX9_score_1 : decode cX9_score 1 = .ok (.iload_n 1, 1) := by decide +kernel
theorem dX9_score_2 : decode cX9_score 2 = .ok (.invokevirtual 191, 3) := by decide +kernel
theorem dX9_score_5 : decode cX9_score 5 = .ok (.ifCond .ne 5, 3) := by decide +kernel
theorem dX9_score_8 : decode cX9_score 8 = .ok (.iconst (-1), 1) := by decide +kernel
theorem dX9_score_9 : decode cX9_score 9 = .ok (.ireturn, 1) := by decide +kernel
theorem dX9_score_10 : decode cX9_score 10 = .ok (.aload_n 0, 1) := by decide +kernel
theorem dX9_score_11 : decode cX9_score 11 = .ok (.iload_n 1, 1) := by decide +kernel
theorem dX9_score_12 : decode cX9_score 12 = .ok (.aload_n 0, 1) := by decide +kernel
theorem dX9_score_13 : decode cX9_score 13 = .ok (.getfield 38, 3) := by decide +kernel
theorem dX9_score_16 : decode cX9_score 16 = .ok (.iload_n 1, 1) := by decide +kernel
theorem dX9_score_17 : decode cX9_score 17 = .ok (.iaload, 1) := by decide +kernel
theorem dX9_score_18 : decode cX9_score 18 = .ok (.invokevirtual 188, 3) := by decide +kernel
theorem dX9_score_21 : decode cX9_score 21 = .ok (.iload_n 2, 1) := by decide +kernel
theorem dX9_score_22 : decode cX9_score 22 = .ok (.tableswitch 106 0 9 #[54, 54, 61, 61, 70, 70, 79, 84, 89, 96], 54) := by decide +kernel
theorem dX9_score_76 : decode cX9_score 76 = .ok (.aload_n 0, 1) := by decide +kernel
theorem dX9_score_77 : decode cX9_score 77 = .ok (.getfield 81, 3) := by decide +kernel
theorem dX9_score_80 : decode cX9_score 80 = .ok (.iload_n 2, 1) := by decide +kernel
theorem dX9_score_81 : decode cX9_score 81 = .ok (.iaload, 1) := by decide +kernel
theorem dX9_score_82 : decode cX9_score 82 = .ok (.ireturn, 1) := by decide +kernel
theorem dX9_score_83 : decode cX9_score 83 = .ok (.aload_n 0, 1) := by decide +kernel
theorem dX9_score_84 : decode cX9_score 84 = .ok (.getfield 84, 3) := by decide +kernel
theorem dX9_score_87 : decode cX9_score 87 = .ok (.iload_n 2, 1) := by decide +kernel
theorem dX9_score_88 : decode cX9_score 88 = .ok (.iconst 2, 1) := by decide +kernel
theorem dX9_score_89 : decode cX9_score 89 = .ok (.isub, 1) := by decide +kernel
theorem dX9_score_90 : decode cX9_score 90 = .ok (.iaload, 1) := by decide +kernel
theorem dX9_score_91 : decode cX9_score 91 = .ok (.ireturn, 1) := by decide +kernel
theorem dX9_score_92 : decode cX9_score 92 = .ok (.aload_n 0, 1) := by decide +kernel
theorem dX9_score_93 : decode cX9_score 93 = .ok (.getfield 87, 3) := by decide +kernel
theorem dX9_score_96 : decode cX9_score 96 = .ok (.iload_n 2, 1) := by decide +kernel
theorem dX9_score_97 : decode cX9_score 97 = .ok (.iconst 4, 1) := by decide +kernel
theorem dX9_score_98 : decode cX9_score 98 = .ok (.isub, 1) := by decide +kernel
theorem dX9_score_99 : decode cX9_score 99 = .ok (.iaload, 1) := by decide +kernel
theorem dX9_score_100 : decode cX9_score 100 = .ok (.ireturn, 1) := by decide +kernel
theorem dX9_score_101 : decode cX9_score 101 = .ok (.aload_n 0, 1) := by decide +kernel
theorem dX9_score_102 : decode cX9_score 102 = .ok (.invokevirtual 226, 3) := by decide +kernel
theorem dX9_score_105 : decode cX9_score 105 = .ok (.ireturn, 1) := by decide +kernel
theorem dX9_score_106 : decode cX9_score 106 = .ok (.aload_n 0, 1) := by decide +kernel
theorem dX9_score_107 : decode cX9_score 107 = .ok (.getfield 205, 3) := by decide +kernel
theorem dX9_score_110 : decode cX9_score 110 = .ok (.ireturn, 1) := by decide +kernel
theorem dX9_score_111 : decode cX9_score 111 = .ok (.aload_n 0, 1) := by decide +kernel
theorem dX9_score_112 : decode cX9_score 112 = .ok (.getfield 38, 3) := by decide +kernel
theorem dX9_score_115 : decode cX9_score 115 = .ok (.iload_n 1, 1) := by decide +kernel
theorem dX9_score_116 : decode cX9_score 116 = .ok (.iaload, 1) := by decide +kernel
theorem dX9_score_117 : decode cX9_score 117 = .ok (.ireturn, 1) := by decide +kernel
theorem dX9_score_118 : decode cX9_score 118 = .ok (.aload_n 0, 1) := by decide +kernel
theorem dX9_score_119 : decode cX9_score 119 = .ok (.getfield 16, 3) := by decide +kernel
theorem dX9_score_122 : decode cX9_score 122 = .ok (.iload_n 1, 1) := by decide +kernel
theorem dX9_score_123 : decode cX9_score 123 = .ok (.bipush 16, 2) := by decide +kernel
theorem dX9_score_125 : decode cX9_score 125 = .ok (.idiv, 1) := by decide +kernel
theorem dX9_score_126 : decode cX9_score 126 = .ok (.iaload, 1) := by decide +kernel
theorem dX9_score_127 : decode cX9_score 127 = .ok (.ireturn, 1) := by decide +kernel
theorem dX9_score_128 : decode cX9_score 128 = .ok (.iconst (-1), 1) := by decide +kernel
theorem dX9_score_129 : decode cX9_score 129 = .ok (.ireturn, 1) := by decide +kernel
theorem dX9_serves_0 : decode cX9_serves 0 = .ok (.aload_n 0, 1) := by decide +kernel
theorem dX9_serves_1 : decode cX9_serves 1 = .ok (.getfield 202, 3) := by decide +kernel
theorem dX9_serves_4 : decode cX9_serves 4 = .ok (.iconst 2, 1) := by decide +kernel
theorem dX9_serves_5 : decode cX9_serves 5 = .ok (.irem, 1) := by decide +kernel
theorem dX9_serves_6 : decode cX9_serves 6 = .ok (.istore_n 1, 1) := by decide +kernel
theorem dX9_serves_7 : decode cX9_serves 7 = .ok (.aload_n 0, 1) := by decide +kernel
theorem dX9_serves_8 : decode cX9_serves 8 = .ok (.getfield 84, 3) := by decide +kernel
theorem dX9_serves_11 : decode cX9_serves 11 = .ok (.iconst 0, 1) := by decide +kernel
theorem dX9_serves_12 : decode cX9_serves 12 = .ok (.iaload, 1) := by decide +kernel
theorem dX9_serves_13 : decode cX9_serves 13 = .ok (.bipush 6, 2) := by decide +kernel
theorem dX9_serves_15 : decode cX9_serves 15 = .ok (.if_icmp .ne 14, 3) := by decide +kernel
theorem dX9_serves_18 : decode cX9_serves 18 = .ok (.aload_n 0, 1) := by decide +kernel
theorem dX9_serves_19 : decode cX9_serves 19 = .ok (.getfield 84, 3) := by decide +kernel
theorem dX9_serves_22 : decode cX9_serves 22 = .ok (.iconst 1, 1) := by decide +kernel
theorem dX9_serves_23 : decode cX9_serves 23 = .ok (.iaload, 1) := by decide +kernel
theorem dX9_serves_24 : decode cX9_serves 24 = .ok (.bipush 6, 2) := by decide +kernel
theorem dX9_serves_26 : decode cX9_serves 26 = .ok (.if_icmp .eq 5, 3) := by decide +kernel
theorem dX9_serves_29 : decode cX9_serves 29 = .ok (.iload_n 1, 1) := by decide +kernel
theorem dX9_serves_30 : decode cX9_serves 30 = .ok (.ireturn, 1) := by decide +kernel
theorem dX9_serves_31 : decode cX9_serves 31 = .ok (.aload_n 0, 1) := by decide +kernel
theorem dX9_serves_32 : decode cX9_serves 32 = .ok (.getfield 81, 3) := by decide +kernel
theorem dX9_serves_35 : decode cX9_serves 35 = .ok (.iconst 0, 1) := by decide +kernel
theorem dX9_serves_36 : decode cX9_serves 36 = .ok (.iaload, 1) := by decide +kernel
theorem dX9_serves_37 : decode cX9_serves 37 = .ok (.aload_n 0, 1) := by decide +kernel
theorem dX9_serves_38 : decode cX9_serves 38 = .ok (.getfield 81, 3) := by decide +kernel
theorem dX9_serves_41 : decode cX9_serves 41 = .ok (.iconst 1, 1) := by decide +kernel
theorem dX9_serves_42 : decode cX9_serves 42 = .ok (.iaload, 1) := by decide +kernel
theorem dX9_serves_43 : decode cX9_serves 43 = .ok (.iadd, 1) := by decide +kernel
theorem dX9_serves_44 : decode cX9_serves 44 = .ok (.istore_n 2, 1) := by decide +kernel
theorem dX9_serves_45 : decode cX9_serves 45 = .ok (.iload_n 2, 1) := by decide +kernel
theorem dX9_serves_46 : decode cX9_serves 46 = .ok (.iconst 1, 1) := by decide +kernel
theorem dX9_serves_47 : decode cX9_serves 47 = .ok (.iadd, 1) := by decide +kernel
theorem dX9_serves_48 : decode cX9_serves 48 = .ok (.iconst 2, 1) := by decide +kernel
theorem dX9_serves_49 : decode cX9_serves 49 = .ok (.idiv, 1) := by decide +kernel
theorem dX9_serves_50 : decode cX9_serves 50 = .ok (.iconst 2, 1) := by decide +kernel
theorem dX9_serves_51 : decode cX9_serves 51 = .ok (.irem, 1) := by decide +kernel
theorem dX9_serves_52 : decode cX9_serves 52 = .ok (.ifCond .ne 7, 3) := by decide +kernel
theorem dX9_serves_55 : decode cX9_serves 55 = .ok (.iload_n 1, 1) := by decide +kernel
theorem dX9_serves_56 : decode cX9_serves 56 = .ok (.goto 6, 3) := by decide +kernel
theorem dX9_serves_59 : decode cX9_serves 59 = .ok (.iconst 1, 1) := by decide +kernel
theorem dX9_serves_60 : decode cX9_serves 60 = .ok (.iload_n 1, 1) := by decide +kernel
theorem dX9_serves_61 : decode cX9_serves 61 = .ok (.isub, 1) := by decide +kernel
theorem dX9_serves_62 : decode cX9_serves 62 = .ok (.ireturn, 1) := by decide +kernel
theorem dX9_games_0 : decode cX9_games 0 = .ok (.aload_n 0, 1) := by decide +kernel
theorem dX9_games_1 : decode cX9_games 1 = .ok (.iload_n 1, 1) := by decide +kernel
theorem dX9_games_2 : decode cX9_games 2 = .ok (.invokevirtual 191, 3) := by decide +kernel
theorem dX9_games_5 : decode cX9_games 5 = .ok (.ifCond .eq 12, 3) := by decide +kernel
theorem dX9_games_8 : decode cX9_games 8 = .ok (.iload_n 3, 1) := by decide +kernel
theorem dX9_games_9 : decode cX9_games 9 = .ok (.iconst 0, 1) := by decide +kernel
theorem dX9_games_10 : decode cX9_games 10 = .ok (.iconst 1, 1) := by decide +kernel
theorem dX9_games_11 : decode cX9_games 11 = .ok (.invokestatic 111, 3) := by decide +kernel
theorem dX9_games_14 : decode cX9_games 14 = .ok (.ifCond .ne 5, 3) := by decide +kernel
theorem dX9_games_17 : decode cX9_games 17 = .ok (.iconst (-1), 1) := by decide +kernel
theorem dX9_games_18 : decode cX9_games 18 = .ok (.ireturn, 1) := by decide +kernel
theorem dX9_games_19 : decode cX9_games 19 = .ok (.aload_n 0, 1) := by decide +kernel
theorem dX9_games_20 : decode cX9_games 20 = .ok (.iload_n 1, 1) := by decide +kernel
theorem dX9_games_21 : decode cX9_games 21 = .ok (.aload_n 0, 1) := by decide +kernel
theorem dX9_games_22 : decode cX9_games 22 = .ok (.getfield 38, 3) := by decide +kernel
theorem dX9_games_25 : decode cX9_games 25 = .ok (.iload_n 1, 1) := by decide +kernel
theorem dX9_games_26 : decode cX9_games 26 = .ok (.iaload, 1) := by decide +kernel
theorem dX9_games_27 : decode cX9_games 27 = .ok (.invokevirtual 188, 3) := by decide +kernel
theorem dX9_games_30 : decode cX9_games 30 = .ok (.aload_n 0, 1) := by decide +kernel
theorem dX9_games_31 : decode cX9_games 31 = .ok (.getfield 87, 3) := by decide +kernel
theorem dX9_games_34 : decode cX9_games 34 = .ok (.iconst 0, 1) := by decide +kernel
theorem dX9_games_35 : decode cX9_games 35 = .ok (.iaload, 1) := by decide +kernel
theorem dX9_games_36 : decode cX9_games 36 = .ok (.aload_n 0, 1) := by decide +kernel
theorem dX9_games_37 : decode cX9_games 37 = .ok (.getfield 16, 3) := by decide +kernel
theorem dX9_games_40 : decode cX9_games 40 = .ok (.iload_n 1, 1) := by decide +kernel
theorem dX9_games_41 : decode cX9_games 41 = .ok (.bipush 16, 2) := by decide +kernel
theorem dX9_games_43 : decode cX9_games 43 = .ok (.idiv, 1) := by decide +kernel
theorem dX9_games_44 : decode cX9_games 44 = .ok (.iaload, 1) := by decide +kernel
theorem dX9_games_45 : decode cX9_games 45 = .ok (.if_icmp .eq 21, 3) := by decide +kernel
theorem dX9_games_48 : decode cX9_games 48 = .ok (.aload_n 0, 1) := by decide +kernel
theorem dX9_games_49 : decode cX9_games 49 = .ok (.getfield 87, 3) := by decide +kernel
theorem dX9_games_52 : decode cX9_games 52 = .ok (.iconst 1, 1) := by decide +kernel
theorem dX9_games_53 : decode cX9_games 53 = .ok (.iaload, 1) := by decide +kernel
theorem dX9_games_54 : decode cX9_games 54 = .ok (.aload_n 0, 1) := by decide +kernel
theorem dX9_games_55 : decode cX9_games 55 = .ok (.getfield 16, 3) := by decide +kernel
theorem dX9_games_58 : decode cX9_games 58 = .ok (.iload_n 1, 1) := by decide +kernel
theorem dX9_games_59 : decode cX9_games 59 = .ok (.bipush 16, 2) := by decide +kernel
theorem dX9_games_61 : decode cX9_games 61 = .ok (.idiv, 1) := by decide +kernel
theorem dX9_games_62 : decode cX9_games 62 = .ok (.iaload, 1) := by decide +kernel
theorem dX9_games_63 : decode cX9_games 63 = .ok (.if_icmp .ne 7, 3) := by decide +kernel
theorem dX9_games_66 : decode cX9_games 66 = .ok (.iconst 1, 1) := by decide +kernel
theorem dX9_games_67 : decode cX9_games 67 = .ok (.goto 4, 3) := by decide +kernel
theorem dX9_games_70 : decode cX9_games 70 = .ok (.iconst 0, 1) := by decide +kernel
theorem dX9_games_71 : decode cX9_games 71 = .ok (.istore 4, 2) := by decide +kernel
theorem dX9_games_73 : decode cX9_games 73 = .ok (.iload_n 2, 1) := by decide +kernel
theorem dX9_games_74 : decode cX9_games 74 = .ok (.iconst 0, 1) := by decide +kernel
theorem dX9_games_75 : decode cX9_games 75 = .ok (.aload_n 0, 1) := by decide +kernel
theorem dX9_games_76 : decode cX9_games 76 = .ok (.getfield 199, 3) := by decide +kernel
theorem dX9_games_79 : decode cX9_games 79 = .ok (.iconst 1, 1) := by decide +kernel
theorem dX9_games_80 : decode cX9_games 80 = .ok (.isub, 1) := by decide +kernel
theorem dX9_games_81 : decode cX9_games 81 = .ok (.invokestatic 111, 3) := by decide +kernel
theorem dX9_games_84 : decode cX9_games 84 = .ok (.ifCond .eq 14, 3) := by decide +kernel
theorem dX9_games_87 : decode cX9_games 87 = .ok (.aload_n 0, 1) := by decide +kernel
theorem dX9_games_88 : decode cX9_games 88 = .ok (.getfield 90, 3) := by decide +kernel
theorem dX9_games_91 : decode cX9_games 91 = .ok (.iconst 2, 1) := by decide +kernel
theorem dX9_games_92 : decode cX9_games 92 = .ok (.iload_n 2, 1) := by decide +kernel
theorem dX9_games_93 : decode cX9_games 93 = .ok (.imul, 1) := by decide +kernel
theorem dX9_games_94 : decode cX9_games 94 = .ok (.iload_n 3, 1) := by decide +kernel
theorem dX9_games_95 : decode cX9_games 95 = .ok (.iadd, 1) := by decide +kernel
theorem dX9_games_96 : decode cX9_games 96 = .ok (.iaload, 1) := by decide +kernel
theorem dX9_games_97 : decode cX9_games 97 = .ok (.ireturn, 1) := by decide +kernel
theorem dX9_games_98 : decode cX9_games 98 = .ok (.iload_n 2, 1) := by decide +kernel
theorem dX9_games_99 : decode cX9_games 99 = .ok (.aload_n 0, 1) := by decide +kernel
theorem dX9_games_100 : decode cX9_games 100 = .ok (.getfield 199, 3) := by decide +kernel
theorem dX9_games_103 : decode cX9_games 103 = .ok (.if_icmp .ne 17, 3) := by decide +kernel
theorem dX9_games_106 : decode cX9_games 106 = .ok (.iload 4, 2) := by decide +kernel
theorem dX9_games_108 : decode cX9_games 108 = .ok (.ifCond .ne 12, 3) := by decide +kernel
theorem dX9_games_111 : decode cX9_games 111 = .ok (.aload_n 0, 1) := by decide +kernel
theorem dX9_games_112 : decode cX9_games 112 = .ok (.getfield 84, 3) := by decide +kernel
theorem dX9_games_115 : decode cX9_games 115 = .ok (.iload_n 3, 1) := by decide +kernel
theorem dX9_games_116 : decode cX9_games 116 = .ok (.iaload, 1) := by decide +kernel
theorem dX9_games_117 : decode cX9_games 117 = .ok (.goto 4, 3) := by decide +kernel
theorem dX9_games_120 : decode cX9_games 120 = .ok (.iconst (-1), 1) := by decide +kernel
theorem dX9_games_121 : decode cX9_games 121 = .ok (.ireturn, 1) := by decide +kernel
theorem dX9_stands_0 : decode cX9_stands 0 = .ok (.aload_n 0, 1) := by decide +kernel
theorem dX9_stands_1 : decode cX9_stands 1 = .ok (.iload_n 1, 1) := by decide +kernel
theorem dX9_stands_2 : decode cX9_stands 2 = .ok (.invokevirtual 191, 3) := by decide +kernel
theorem dX9_stands_5 : decode cX9_stands 5 = .ok (.ifCond .ne 5, 3) := by decide +kernel
theorem dX9_stands_8 : decode cX9_stands 8 = .ok (.iconst (-1), 1) := by decide +kernel
theorem dX9_stands_9 : decode cX9_stands 9 = .ok (.ireturn, 1) := by decide +kernel
theorem dX9_stands_10 : decode cX9_stands 10 = .ok (.aload_n 0, 1) := by decide +kernel
theorem dX9_stands_11 : decode cX9_stands 11 = .ok (.iload_n 1, 1) := by decide +kernel
theorem dX9_stands_12 : decode cX9_stands 12 = .ok (.invokevirtual 176, 3) := by decide +kernel
theorem dX9_stands_15 : decode cX9_stands 15 = .ok (.ifCond .eq 6, 3) := by decide +kernel
theorem dX9_stands_18 : decode cX9_stands 18 = .ok (.bipush 6, 2) := by decide +kernel
theorem dX9_stands_20 : decode cX9_stands 20 = .ok (.ireturn, 1) := by decide +kernel
theorem dX9_stands_21 : decode cX9_stands 21 = .ok (.aload_n 0, 1) := by decide +kernel
theorem dX9_stands_22 : decode cX9_stands 22 = .ok (.getfield 45, 3) := by decide +kernel
theorem dX9_stands_25 : decode cX9_stands 25 = .ok (.iload_n 1, 1) := by decide +kernel
theorem dX9_stands_26 : decode cX9_stands 26 = .ok (.iaload, 1) := by decide +kernel
theorem dX9_stands_27 : decode cX9_stands 27 = .ok (.ifCond .eq 10, 3) := by decide +kernel
theorem dX9_stands_30 : decode cX9_stands 30 = .ok (.aload_n 0, 1) := by decide +kernel
theorem dX9_stands_31 : decode cX9_stands 31 = .ok (.getfield 45, 3) := by decide +kernel
theorem dX9_stands_34 : decode cX9_stands 34 = .ok (.iload_n 1, 1) := by decide +kernel
theorem dX9_stands_35 : decode cX9_stands 35 = .ok (.iaload, 1) := by decide +kernel
theorem dX9_stands_36 : decode cX9_stands 36 = .ok (.ireturn, 1) := by decide +kernel
theorem dX9_stands_37 : decode cX9_stands 37 = .ok (.aload_n 0, 1) := by decide +kernel
theorem dX9_stands_38 : decode cX9_stands 38 = .ok (.iload_n 1, 1) := by decide +kernel
theorem dX9_stands_39 : decode cX9_stands 39 = .ok (.invokevirtual 161, 3) := by decide +kernel
theorem dX9_stands_42 : decode cX9_stands 42 = .ok (.ifCond .eq 5, 3) := by decide +kernel
theorem dX9_stands_45 : decode cX9_stands 45 = .ok (.iconst 3, 1) := by decide +kernel
theorem dX9_stands_46 : decode cX9_stands 46 = .ok (.ireturn, 1) := by decide +kernel
theorem dX9_stands_47 : decode cX9_stands 47 = .ok (.aload_n 0, 1) := by decide +kernel
theorem dX9_stands_48 : decode cX9_stands 48 = .ok (.iload_n 1, 1) := by decide +kernel
theorem dX9_stands_49 : decode cX9_stands 49 = .ok (.invokevirtual 214, 3) := by decide +kernel
theorem dX9_stands_52 : decode cX9_stands 52 = .ok (.ifCond .ne 5, 3) := by decide +kernel
theorem dX9_stands_55 : decode cX9_stands 55 = .ok (.iconst 0, 1) := by decide +kernel
theorem dX9_stands_56 : decode cX9_stands 56 = .ok (.ireturn, 1) := by decide +kernel
theorem dX9_stands_57 : decode cX9_stands 57 = .ok (.aload_n 0, 1) := by decide +kernel
theorem dX9_stands_58 : decode cX9_stands 58 = .ok (.getfield 38, 3) := by decide +kernel
theorem dX9_stands_61 : decode cX9_stands 61 = .ok (.iload_n 1, 1) := by decide +kernel
theorem dX9_stands_62 : decode cX9_stands 62 = .ok (.iaload, 1) := by decide +kernel
theorem dX9_stands_63 : decode cX9_stands 63 = .ok (.ifCond .le 7, 3) := by decide +kernel
theorem dX9_stands_66 : decode cX9_stands 66 = .ok (.iconst 2, 1) := by decide +kernel
theorem dX9_stands_67 : decode cX9_stands 67 = .ok (.goto 4, 3) := by decide +kernel
theorem dX9_stands_70 : decode cX9_stands 70 = .ok (.iconst 1, 1) := by decide +kernel
theorem dX9_stands_71 : decode cX9_stands 71 = .ok (.ireturn, 1) := by decide +kernel
theorem dX9_winner_0 : decode cX9_winner 0 = .ok (.aload_n 0, 1) := by decide +kernel
theorem dX9_winner_1 : decode cX9_winner 1 = .ok (.iload_n 1, 1) := by decide +kernel
theorem dX9_winner_2 : decode cX9_winner 2 = .ok (.invokevirtual 191, 3) := by decide +kernel
theorem dX9_winner_5 : decode cX9_winner 5 = .ok (.ifCond .eq 11, 3) := by decide +kernel
theorem dX9_winner_8 : decode cX9_winner 8 = .ok (.aload_n 0, 1) := by decide +kernel
theorem dX9_winner_9 : decode cX9_winner 9 = .ok (.iload_n 1, 1) := by decide +kernel
theorem dX9_winner_10 : decode cX9_winner 10 = .ok (.invokevirtual 185, 3) := by decide +kernel
theorem dX9_winner_13 : decode cX9_winner 13 = .ok (.goto 4, 3) := by decide +kernel
theorem dX9_winner_16 : decode cX9_winner 16 = .ok (.iconst (-1), 1) := by decide +kernel
theorem dX9_winner_17 : decode cX9_winner 17 = .ok (.ireturn, 1) := by decide +kernel
theorem dX9_met_0 : decode cX9_met 0 = .ok (.aload_n 0, 1) := by decide +kernel
theorem dX9_met_1 : decode cX9_met 1 = .ok (.iload_n 1, 1) := by decide +kernel
theorem dX9_met_2 : decode cX9_met 2 = .ok (.invokevirtual 123, 3) := by decide +kernel
theorem dX9_met_5 : decode cX9_met 5 = .ok (.ifCond .eq 19, 3) := by decide +kernel
theorem dX9_met_8 : decode cX9_met 8 = .ok (.aload_n 0, 1) := by decide +kernel
theorem dX9_met_9 : decode cX9_met 9 = .ok (.getfield 28, 3) := by decide +kernel
theorem dX9_met_12 : decode cX9_met 12 = .ok (.iload_n 1, 1) := by decide +kernel
theorem dX9_met_13 : decode cX9_met 13 = .ok (.baload, 1) := by decide +kernel
theorem dX9_met_14 : decode cX9_met 14 = .ok (.ifCond .eq 10, 3) := by decide +kernel
theorem dX9_met_17 : decode cX9_met 17 = .ok (.iload_n 2, 1) := by decide +kernel
theorem dX9_met_18 : decode cX9_met 18 = .ok (.invokestatic 115, 3) := by decide +kernel
theorem dX9_met_21 : decode cX9_met 21 = .ok (.ifCond .ne 5, 3) := by decide +kernel
theorem dX9_met_24 : decode cX9_met 24 = .ok (.iconst (-1), 1) := by decide +kernel
theorem dX9_met_25 : decode cX9_met 25 = .ok (.ireturn, 1) := by decide +kernel
theorem dX9_met_26 : decode cX9_met 26 = .ok (.iload_n 3, 1) := by decide +kernel
theorem dX9_met_27 : decode cX9_met 27 = .ok (.istore 4, 2) := by decide +kernel
theorem dX9_met_29 : decode cX9_met 29 = .ok (.bipush 16, 2) := by decide +kernel
theorem dX9_met_31 : decode cX9_met 31 = .ok (.iload_n 1, 1) := by decide +kernel
theorem dX9_met_32 : decode cX9_met 32 = .ok (.imul, 1) := by decide +kernel
theorem dX9_met_33 : decode cX9_met 33 = .ok (.istore 5, 2) := by decide +kernel
theorem dX9_met_35 : decode cX9_met 35 = .ok (.iload 5, 2) := by decide +kernel
theorem dX9_met_37 : decode cX9_met 37 = .ok (.bipush 16, 2) := by decide +kernel
theorem dX9_met_39 : decode cX9_met 39 = .ok (.iload_n 1, 1) := by decide +kernel
theorem dX9_met_40 : decode cX9_met 40 = .ok (.imul, 1) := by decide +kernel
theorem dX9_met_41 : decode cX9_met 41 = .ok (.aload_n 0, 1) := by decide +kernel
theorem dX9_met_42 : decode cX9_met 42 = .ok (.getfield 13, 3) := by decide +kernel
theorem dX9_met_45 : decode cX9_met 45 = .ok (.iload_n 1, 1) := by decide +kernel
theorem dX9_met_46 : decode cX9_met 46 = .ok (.iaload, 1) := by decide +kernel
theorem dX9_met_47 : decode cX9_met 47 = .ok (.iadd, 1) := by decide +kernel
theorem dX9_met_48 : decode cX9_met 48 = .ok (.iconst 1, 1) := by decide +kernel
theorem dX9_met_49 : decode cX9_met 49 = .ok (.isub, 1) := by decide +kernel
theorem dX9_met_50 : decode cX9_met 50 = .ok (.if_icmp .ge 101, 3) := by decide +kernel
theorem dX9_met_53 : decode cX9_met 53 = .ok (.aload_n 0, 1) := by decide +kernel
theorem dX9_met_54 : decode cX9_met 54 = .ok (.iload 5, 2) := by decide +kernel
theorem dX9_met_56 : decode cX9_met 56 = .ok (.invokevirtual 161, 3) := by decide +kernel
theorem dX9_met_59 : decode cX9_met 59 = .ok (.ifCond .eq 86, 3) := by decide +kernel
theorem dX9_met_62 : decode cX9_met 62 = .ok (.aload_n 0, 1) := by decide +kernel
theorem dX9_met_63 : decode cX9_met 63 = .ok (.getfield 45, 3) := by decide +kernel
theorem dX9_met_66 : decode cX9_met 66 = .ok (.iload 5, 2) := by decide +kernel
theorem dX9_met_68 : decode cX9_met 68 = .ok (.iaload, 1) := by decide +kernel
theorem dX9_met_69 : decode cX9_met 69 = .ok (.iconst 4, 1) := by decide +kernel
theorem dX9_met_70 : decode cX9_met 70 = .ok (.if_icmp .eq 75, 3) := by decide +kernel
theorem dX9_met_73 : decode cX9_met 73 = .ok (.aload_n 0, 1) := by decide +kernel
theorem dX9_met_74 : decode cX9_met 74 = .ok (.iload 5, 2) := by decide +kernel
theorem dX9_met_76 : decode cX9_met 76 = .ok (.invokevirtual 176, 3) := by decide +kernel
theorem dX9_met_79 : decode cX9_met 79 = .ok (.ifCond .eq 6, 3) := by decide +kernel
theorem dX9_met_82 : decode cX9_met 82 = .ok (.goto 63, 3) := by decide +kernel
theorem dX9_met_85 : decode cX9_met 85 = .ok (.aload_n 0, 1) := by decide +kernel
theorem dX9_met_86 : decode cX9_met 86 = .ok (.iload 5, 2) := by decide +kernel
theorem dX9_met_88 : decode cX9_met 88 = .ok (.iconst 0, 1) := by decide +kernel
theorem dX9_met_89 : decode cX9_met 89 = .ok (.invokevirtual 173, 3) := by decide +kernel
theorem dX9_met_92 : decode cX9_met 92 = .ok (.iload_n 2, 1) := by decide +kernel
theorem dX9_met_93 : decode cX9_met 93 = .ok (.if_icmp .ne 7, 3) := by decide +kernel
theorem dX9_met_96 : decode cX9_met 96 = .ok (.iconst 0, 1) := by decide +kernel
theorem dX9_met_97 : decode cX9_met 97 = .ok (.goto 19, 3) := by decide +kernel
theorem dX9_met_100 : decode cX9_met 100 = .ok (.aload_n 0, 1) := by decide +kernel
theorem dX9_met_101 : decode cX9_met 101 = .ok (.iload 5, 2) := by decide +kernel
theorem dX9_met_103 : decode cX9_met 103 = .ok (.iconst 1, 1) := by decide +kernel
theorem dX9_met_104 : decode cX9_met 104 = .ok (.invokevirtual 173, 3) := by decide +kernel
theorem dX9_met_107 : decode cX9_met 107 = .ok (.iload_n 2, 1) := by decide +kernel
theorem dX9_met_108 : decode cX9_met 108 = .ok (.if_icmp .ne 7, 3) := by decide +kernel
theorem dX9_met_111 : decode cX9_met 111 = .ok (.iconst 1, 1) := by decide +kernel
theorem dX9_met_112 : decode cX9_met 112 = .ok (.goto 4, 3) := by decide +kernel
theorem dX9_met_115 : decode cX9_met 115 = .ok (.iconst (-1), 1) := by decide +kernel
theorem dX9_met_116 : decode cX9_met 116 = .ok (.istore 6, 2) := by decide +kernel
theorem dX9_met_118 : decode cX9_met 118 = .ok (.iload 6, 2) := by decide +kernel
theorem dX9_met_120 : decode cX9_met 120 = .ok (.ifCond .ge 6, 3) := by decide +kernel
theorem dX9_met_123 : decode cX9_met 123 = .ok (.goto 22, 3) := by decide +kernel
theorem dX9_met_126 : decode cX9_met 126 = .ok (.iload 4, 2) := by decide +kernel
theorem dX9_met_128 : decode cX9_met 128 = .ok (.ifCond .ne 14, 3) := by decide +kernel
theorem dX9_met_131 : decode cX9_met 131 = .ok (.aload_n 0, 1) := by decide +kernel
theorem dX9_met_132 : decode cX9_met 132 = .ok (.iload 5, 2) := by decide +kernel
theorem dX9_met_134 : decode cX9_met 134 = .ok (.iconst 1, 1) := by decide +kernel
theorem dX9_met_135 : decode cX9_met 135 = .ok (.iload 6, 2) := by decide +kernel
theorem dX9_met_137 : decode cX9_met 137 = .ok (.isub, 1) := by decide +kernel
theorem dX9_met_138 : decode cX9_met 138 = .ok (.invokevirtual 173, 3) := by decide +kernel
theorem dX9_met_141 : decode cX9_met 141 = .ok (.ireturn, 1) := by decide +kernel
theorem dX9_met_142 : decode cX9_met 142 = .ok (.iinc 4 (-1), 3) := by decide +kernel
theorem dX9_met_145 : decode cX9_met 145 = .ok (.iinc 5 1, 3) := by decide +kernel
theorem dX9_met_148 : decode cX9_met 148 = .ok (.goto (-113), 3) := by decide +kernel
theorem dX9_met_151 : decode cX9_met 151 = .ok (.iconst (-1), 1) := by decide +kernel
theorem dX9_met_152 : decode cX9_met 152 = .ok (.ireturn, 1) := by decide +kernel
theorem dX9_isOut_0 : decode cX9_isOut 0 = .ok (.iconst 0, 1) := by decide +kernel
theorem dX9_isOut_1 : decode cX9_isOut 1 = .ok (.istore 4, 2) := by decide +kernel
theorem dX9_isOut_3 : decode cX9_isOut 3 = .ok (.bipush 16, 2) := by decide +kernel
theorem dX9_isOut_5 : decode cX9_isOut 5 = .ok (.iload_n 1, 1) := by decide +kernel
theorem dX9_isOut_6 : decode cX9_isOut 6 = .ok (.imul, 1) := by decide +kernel
theorem dX9_isOut_7 : decode cX9_isOut 7 = .ok (.istore 5, 2) := by decide +kernel
theorem dX9_isOut_9 : decode cX9_isOut 9 = .ok (.iload 5, 2) := by decide +kernel
theorem dX9_isOut_11 : decode cX9_isOut 11 = .ok (.bipush 16, 2) := by decide +kernel
theorem dX9_isOut_13 : decode cX9_isOut 13 = .ok (.iload_n 1, 1) := by decide +kernel
theorem dX9_isOut_14 : decode cX9_isOut 14 = .ok (.imul, 1) := by decide +kernel
theorem dX9_isOut_15 : decode cX9_isOut 15 = .ok (.aload_n 0, 1) := by decide +kernel
theorem dX9_isOut_16 : decode cX9_isOut 16 = .ok (.getfield 13, 3) := by decide +kernel
theorem dX9_isOut_19 : decode cX9_isOut 19 = .ok (.iload_n 1, 1) := by decide +kernel
theorem dX9_isOut_20 : decode cX9_isOut 20 = .ok (.iaload, 1) := by decide +kernel
theorem dX9_isOut_21 : decode cX9_isOut 21 = .ok (.iadd, 1) := by decide +kernel
theorem dX9_isOut_22 : decode cX9_isOut 22 = .ok (.iconst 1, 1) := by decide +kernel
theorem dX9_isOut_23 : decode cX9_isOut 23 = .ok (.isub, 1) := by decide +kernel
theorem dX9_isOut_24 : decode cX9_isOut 24 = .ok (.if_icmp .ge 65, 3) := by decide +kernel
theorem dX9_isOut_27 : decode cX9_isOut 27 = .ok (.aload_n 0, 1) := by decide +kernel
theorem dX9_isOut_28 : decode cX9_isOut 28 = .ok (.iload_n 1, 1) := by decide +kernel
theorem dX9_isOut_29 : decode cX9_isOut 29 = .ok (.iload 5, 2) := by decide +kernel
theorem dX9_isOut_31 : decode cX9_isOut 31 = .ok (.bipush 16, 2) := by decide +kernel
theorem dX9_isOut_33 : decode cX9_isOut 33 = .ok (.irem, 1) := by decide +kernel
theorem dX9_isOut_34 : decode cX9_isOut 34 = .ok (.invokevirtual 167, 3) := by decide +kernel
theorem dX9_isOut_37 : decode cX9_isOut 37 = .ok (.iload_n 3, 1) := by decide +kernel
theorem dX9_isOut_38 : decode cX9_isOut 38 = .ok (.if_icmp .ge 45, 3) := by decide +kernel
theorem dX9_isOut_41 : decode cX9_isOut 41 = .ok (.aload_n 0, 1) := by decide +kernel
theorem dX9_isOut_42 : decode cX9_isOut 42 = .ok (.iload 5, 2) := by decide +kernel
theorem dX9_isOut_44 : decode cX9_isOut 44 = .ok (.invokevirtual 161, 3) := by decide +kernel
theorem dX9_isOut_47 : decode cX9_isOut 47 = .ok (.ifCond .ne 6, 3) := by decide +kernel
theorem dX9_isOut_50 : decode cX9_isOut 50 = .ok (.goto 33, 3) := by decide +kernel
theorem dX9_isOut_53 : decode cX9_isOut 53 = .ok (.iload 4, 2) := by decide +kernel
theorem dX9_isOut_55 : decode cX9_isOut 55 = .ok (.ifCond .ne 21, 3) := by decide +kernel
theorem dX9_isOut_58 : decode cX9_isOut 58 = .ok (.aload_n 0, 1) := by decide +kernel
theorem dX9_isOut_59 : decode cX9_isOut 59 = .ok (.iload 5, 2) := by decide +kernel
theorem dX9_isOut_61 : decode cX9_isOut 61 = .ok (.iconst 1, 1) := by decide +kernel
theorem dX9_isOut_62 : decode cX9_isOut 62 = .ok (.aload_n 0, 1) := by decide +kernel
theorem dX9_isOut_63 : decode cX9_isOut 63 = .ok (.iload 5, 2) := by decide +kernel
theorem dX9_isOut_65 : decode cX9_isOut 65 = .ok (.invokevirtual 185, 3) := by decide +kernel
theorem dX9_isOut_68 : decode cX9_isOut 68 = .ok (.isub, 1) := by decide +kernel
theorem dX9_isOut_69 : decode cX9_isOut 69 = .ok (.invokevirtual 173, 3) := by decide +kernel
theorem dX9_isOut_72 : decode cX9_isOut 72 = .ok (.iload_n 2, 1) := by decide +kernel
theorem dX9_isOut_73 : decode cX9_isOut 73 = .ok (.if_icmp .ne 7, 3) := by decide +kernel
theorem dX9_isOut_76 : decode cX9_isOut 76 = .ok (.iconst 1, 1) := by decide +kernel
theorem dX9_isOut_77 : decode cX9_isOut 77 = .ok (.goto 4, 3) := by decide +kernel
theorem dX9_isOut_80 : decode cX9_isOut 80 = .ok (.iconst 0, 1) := by decide +kernel
theorem dX9_isOut_81 : decode cX9_isOut 81 = .ok (.istore 4, 2) := by decide +kernel
theorem dX9_isOut_83 : decode cX9_isOut 83 = .ok (.iinc 5 1, 3) := by decide +kernel
theorem dX9_isOut_86 : decode cX9_isOut 86 = .ok (.goto (-77), 3) := by decide +kernel
theorem dX9_isOut_89 : decode cX9_isOut 89 = .ok (.iload 4, 2) := by decide +kernel
theorem dX9_isOut_91 : decode cX9_isOut 91 = .ok (.ireturn, 1) := by decide +kernel
theorem dX9_meeting_0 : decode cX9_meeting 0 = .ok (.aload_n 0, 1) := by decide +kernel
theorem dX9_meeting_1 : decode cX9_meeting 1 = .ok (.iload_n 1, 1) := by decide +kernel
theorem dX9_meeting_2 : decode cX9_meeting 2 = .ok (.invokevirtual 123, 3) := by decide +kernel
theorem dX9_meeting_5 : decode cX9_meeting 5 = .ok (.ifCond .eq 31, 3) := by decide +kernel
theorem dX9_meeting_8 : decode cX9_meeting 8 = .ok (.aload_n 0, 1) := by decide +kernel
theorem dX9_meeting_9 : decode cX9_meeting 9 = .ok (.getfield 28, 3) := by decide +kernel
theorem dX9_meeting_12 : decode cX9_meeting 12 = .ok (.iload_n 1, 1) := by decide +kernel
theorem dX9_meeting_13 : decode cX9_meeting 13 = .ok (.baload, 1) := by decide +kernel
theorem dX9_meeting_14 : decode cX9_meeting 14 = .ok (.ifCond .eq 22, 3) := by decide +kernel
theorem dX9_meeting_17 : decode cX9_meeting 17 = .ok (.iload_n 2, 1) := by decide +kernel
theorem dX9_meeting_18 : decode cX9_meeting 18 = .ok (.invokestatic 115, 3) := by decide +kernel
theorem dX9_meeting_21 : decode cX9_meeting 21 = .ok (.ifCond .eq 15, 3) := by decide +kernel
theorem dX9_meeting_24 : decode cX9_meeting 24 = .ok (.iload_n 3, 1) := by decide +kernel
theorem dX9_meeting_25 : decode cX9_meeting 25 = .ok (.invokestatic 115, 3) := by decide +kernel
