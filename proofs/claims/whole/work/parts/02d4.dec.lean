theorem dX8_undo_60 : decode cX8_undo 60 = .ok (.ireturn, 1) := by decide +kernel
theorem dX8_score_0 : decode cX8_score 0 = .ok (.aload_n 0, 1) := by decide +kernel
theorem dX8_score_1 : decode cX8_score 1 = .ok (.getfield 10, 3) := by decide +kernel
theorem dX8_score_4 : decode cX8_score 4 = .ok (.iload_n 1, 1) := by decide +kernel
theorem dX8_score_5 : decode cX8_score 5 = .ok (.invokevirtual 129, 3) := by decide +kernel
theorem dX8_score_8 : decode cX8_score 8 = .ok (.astore_n 3, 1) := by decide +kernel
theorem dX8_score_9 : decode cX8_score 9 = .ok (.aload_n 3, 1) := by decide +kernel
theorem dX8_score_10 : decode cX8_score 10 = .ok (.ifnonnull 5, 3) := by decide +kernel
theorem dX8_score_13 : decode cX8_score 13 = .ok (.iconst (-1), 1) := by decide +kernel
theorem dX8_score_14 : decode cX8_score 14 = .ok (.ireturn, 1) := by decide +kernel
theorem dX8_score_15 : decode cX8_score 15 = .ok (.aload_n 0, 1) := by decide +kernel
theorem dX8_score_16 : decode cX8_score 16 = .ok (.getfield 26, 3) := by decide +kernel
theorem dX8_score_19 : decode cX8_score 19 = .ok (.aload_n 3, 1) := by decide +kernel
theorem dX8_score_20 : decode cX8_score 20 = .ok (.iload_n 1, 1) := by decide +kernel
theorem dX8_score_21 : decode cX8_score 21 = .ok (.invokestatic 135, 3) := by decide +kernel
theorem dX8_score_24 : decode cX8_score 24 = .ok (.invokevirtual 148, 3) := by decide +kernel
theorem dX8_score_27 : decode cX8_score 27 = .ok (.iload_n 2, 1) := by decide +kernel
theorem dX8_score_28 : decode cX8_score 28 = .ok (.tableswitch 121 0 9 #[56, 56, 66, 66, 78, 78, 90, 98, 106, 116], 56) := by decide +kernel
theorem dX8_score_84 : decode cX8_score 84 = .ok (.aload_n 0, 1) := by decide +kernel
theorem dX8_score_85 : decode cX8_score 85 = .ok (.getfield 26, 3) := by decide +kernel
theorem dX8_score_88 : decode cX8_score 88 = .ok (.getfield 171, 3) := by decide +kernel
theorem dX8_score_91 : decode cX8_score 91 = .ok (.iload_n 2, 1) := by decide +kernel
theorem dX8_score_92 : decode cX8_score 92 = .ok (.iaload, 1) := by decide +kernel
theorem dX8_score_93 : decode cX8_score 93 = .ok (.ireturn, 1) := by decide +kernel
theorem dX8_score_94 : decode cX8_score 94 = .ok (.aload_n 0, 1) := by decide +kernel
theorem dX8_score_95 : decode cX8_score 95 = .ok (.getfield 26, 3) := by decide +kernel
theorem dX8_score_98 : decode cX8_score 98 = .ok (.getfield 172, 3) := by decide +kernel
theorem dX8_score_101 : decode cX8_score 101 = .ok (.iload_n 2, 1) := by decide +kernel
theorem dX8_score_102 : decode cX8_score 102 = .ok (.iconst 2, 1) := by decide +kernel
theorem dX8_score_103 : decode cX8_score 103 = .ok (.isub, 1) := by decide +kernel
theorem dX8_score_104 : decode cX8_score 104 = .ok (.iaload, 1) := by decide +kernel
theorem dX8_score_105 : decode cX8_score 105 = .ok (.ireturn, 1) := by decide +kernel
theorem dX8_score_106 : decode cX8_score 106 = .ok (.aload_n 0, 1) := by decide +kernel
theorem dX8_score_107 : decode cX8_score 107 = .ok (.getfield 26, 3) := by decide +kernel
theorem dX8_score_110 : decode cX8_score 110 = .ok (.getfield 175, 3) := by decide +kernel
theorem dX8_score_113 : decode cX8_score 113 = .ok (.iload_n 2, 1) := by decide +kernel
theorem dX8_score_114 : decode cX8_score 114 = .ok (.iconst 4, 1) := by decide +kernel
theorem dX8_score_115 : decode cX8_score 115 = .ok (.isub, 1) := by decide +kernel
theorem dX8_score_116 : decode cX8_score 116 = .ok (.iaload, 1) := by decide +kernel
theorem dX8_score_117 : decode cX8_score 117 = .ok (.ireturn, 1) := by decide +kernel
theorem dX8_score_118 : decode cX8_score 118 = .ok (.aload_n 0, 1) := by decide +kernel
theorem dX8_score_119 : decode cX8_score 119 = .ok (.getfield 26, 3) := by decide +kernel
theorem dX8_score_122 : decode cX8_score 122 = .ok (.invokevirtual 178, 3) := by decide +kernel
theorem dX8_score_125 : decode cX8_score 125 = .ok (.ireturn, 1) := by decide +kernel
theorem dX8_score_126 : decode cX8_score 126 = .ok (.aload_n 0, 1) := by decide +kernel
theorem dX8_score_127 : decode cX8_score 127 = .ok (.getfield 26, 3) := by decide +kernel
theorem dX8_score_130 : decode cX8_score 130 = .ok (.getfield 181, 3) := by decide +kernel
theorem dX8_score_133 : decode cX8_score 133 = .ok (.ireturn, 1) := by decide +kernel
theorem dX8_score_134 : decode cX8_score 134 = .ok (.aload_n 3, 1) := by decide +kernel
theorem dX8_score_135 : decode cX8_score 135 = .ok (.getfield 145, 3) := by decide +kernel
theorem dX8_score_138 : decode cX8_score 138 = .ok (.iload_n 1, 1) := by decide +kernel
theorem dX8_score_139 : decode cX8_score 139 = .ok (.invokestatic 135, 3) := by decide +kernel
theorem dX8_score_142 : decode cX8_score 142 = .ok (.iaload, 1) := by decide +kernel
theorem dX8_score_143 : decode cX8_score 143 = .ok (.ireturn, 1) := by decide +kernel
theorem dX8_score_144 : decode cX8_score 144 = .ok (.aload_n 3, 1) := by decide +kernel
theorem dX8_score_145 : decode cX8_score 145 = .ok (.getfield 111, 3) := by decide +kernel
theorem dX8_score_148 : decode cX8_score 148 = .ok (.ireturn, 1) := by decide +kernel
theorem dX8_score_149 : decode cX8_score 149 = .ok (.iconst (-1), 1) := by decide +kernel
theorem dX8_score_150 : decode cX8_score 150 = .ok (.ireturn, 1) := by decide +kernel
theorem dX8_games_0 : decode cX8_games 0 = .ok (.aload_n 0, 1) := by decide +kernel
theorem dX8_games_1 : decode cX8_games 1 = .ok (.getfield 10, 3) := by decide +kernel
theorem dX8_games_4 : decode cX8_games 4 = .ok (.iload_n 1, 1) := by decide +kernel
theorem dX8_games_5 : decode cX8_games 5 = .ok (.invokevirtual 129, 3) := by decide +kernel
theorem dX8_games_8 : decode cX8_games 8 = .ok (.astore 4, 2) := by decide +kernel
theorem dX8_games_10 : decode cX8_games 10 = .ok (.aload 4, 2) := by decide +kernel
theorem dX8_games_12 : decode cX8_games 12 = .ok (.ifnull 10, 3) := by decide +kernel
theorem dX8_games_15 : decode cX8_games 15 = .ok (.iload_n 3, 1) := by decide +kernel
theorem dX8_games_16 : decode cX8_games 16 = .ok (.invokestatic 132, 3) := by decide +kernel
theorem dX8_games_19 : decode cX8_games 19 = .ok (.ifCond .ne 5, 3) := by decide +kernel
theorem dX8_games_22 : decode cX8_games 22 = .ok (.iconst (-1), 1) := by decide +kernel
theorem dX8_games_23 : decode cX8_games 23 = .ok (.ireturn, 1) := by decide +kernel
theorem dX8_games_24 : decode cX8_games 24 = .ok (.iload_n 1, 1) := by decide +kernel
theorem dX8_games_25 : decode cX8_games 25 = .ok (.invokestatic 135, 3) := by decide +kernel
theorem dX8_games_28 : decode cX8_games 28 = .ok (.istore 5, 2) := by decide +kernel
theorem dX8_games_30 : decode cX8_games 30 = .ok (.aload_n 0, 1) := by decide +kernel
theorem dX8_games_31 : decode cX8_games 31 = .ok (.getfield 26, 3) := by decide +kernel
theorem dX8_games_34 : decode cX8_games 34 = .ok (.aload 4, 2) := by decide +kernel
theorem dX8_games_36 : decode cX8_games 36 = .ok (.iload 5, 2) := by decide +kernel
theorem dX8_games_38 : decode cX8_games 38 = .ok (.invokevirtual 148, 3) := by decide +kernel
theorem dX8_games_41 : decode cX8_games 41 = .ok (.aload_n 0, 1) := by decide +kernel
theorem dX8_games_42 : decode cX8_games 42 = .ok (.getfield 26, 3) := by decide +kernel
theorem dX8_games_45 : decode cX8_games 45 = .ok (.iload_n 2, 1) := by decide +kernel
theorem dX8_games_46 : decode cX8_games 46 = .ok (.iload_n 3, 1) := by decide +kernel
theorem dX8_games_47 : decode cX8_games 47 = .ok (.aload 4, 2) := by decide +kernel
theorem dX8_games_49 : decode cX8_games 49 = .ok (.getfield 162, 3) := by decide +kernel
theorem dX8_games_52 : decode cX8_games 52 = .ok (.iload 5, 2) := by decide +kernel
theorem dX8_games_54 : decode cX8_games 54 = .ok (.iaload, 1) := by decide +kernel
theorem dX8_games_55 : decode cX8_games 55 = .ok (.iconst 3, 1) := by decide +kernel
theorem dX8_games_56 : decode cX8_games 56 = .ok (.if_icmp .eq 7, 3) := by decide +kernel
theorem dX8_games_59 : decode cX8_games 59 = .ok (.iconst 1, 1) := by decide +kernel
theorem dX8_games_60 : decode cX8_games 60 = .ok (.goto 4, 3) := by decide +kernel
theorem dX8_games_63 : decode cX8_games 63 = .ok (.iconst 0, 1) := by decide +kernel
theorem dX8_games_64 : decode cX8_games 64 = .ok (.invokevirtual 184, 3) := by decide +kernel
theorem dX8_games_67 : decode cX8_games 67 = .ok (.ireturn, 1) := by decide +kernel
theorem dX8_stands_0 : decode cX8_stands 0 = .ok (.aload_n 0, 1) := by decide +kernel
theorem dX8_stands_1 : decode cX8_stands 1 = .ok (.getfield 10, 3) := by decide +kernel
theorem dX8_stands_4 : decode cX8_stands 4 = .ok (.iload_n 1, 1) := by decide +kernel
theorem dX8_stands_5 : decode cX8_stands 5 = .ok (.invokevirtual 129, 3) := by decide +kernel
theorem dX8_stands_8 : decode cX8_stands 8 = .ok (.astore_n 2, 1) := by decide +kernel
theorem dX8_stands_9 : decode cX8_stands 9 = .ok (.aload_n 2, 1) := by decide +kernel
theorem dX8_stands_10 : decode cX8_stands 10 = .ok (.ifnonnull 5, 3) := by decide +kernel
theorem dX8_stands_13 : decode cX8_stands 13 = .ok (.iconst (-1), 1) := by decide +kernel
theorem dX8_stands_14 : decode cX8_stands 14 = .ok (.ireturn, 1) := by decide +kernel
theorem dX8_stands_15 : decode cX8_stands 15 = .ok (.iload_n 1, 1) := by decide +kernel
theorem dX8_stands_16 : decode cX8_stands 16 = .ok (.invokestatic 135, 3) := by decide +kernel
theorem dX8_stands_19 : decode cX8_stands 19 = .ok (.istore_n 3, 1) := by decide +kernel
theorem dX8_stands_20 : decode cX8_stands 20 = .ok (.aload_n 2, 1) := by decide +kernel
theorem dX8_stands_21 : decode cX8_stands 21 = .ok (.getfield 162, 3) := by decide +kernel
theorem dX8_stands_24 : decode cX8_stands 24 = .ok (.iload_n 3, 1) := by decide +kernel
theorem dX8_stands_25 : decode cX8_stands 25 = .ok (.iaload, 1) := by decide +kernel
theorem dX8_stands_26 : decode cX8_stands 26 = .ok (.ifCond .eq 10, 3) := by decide +kernel
theorem dX8_stands_29 : decode cX8_stands 29 = .ok (.aload_n 2, 1) := by decide +kernel
theorem dX8_stands_30 : decode cX8_stands 30 = .ok (.getfield 162, 3) := by decide +kernel
theorem dX8_stands_33 : decode cX8_stands 33 = .ok (.iload_n 3, 1) := by decide +kernel
theorem dX8_stands_34 : decode cX8_stands 34 = .ok (.iaload, 1) := by decide +kernel
theorem dX8_stands_35 : decode cX8_stands 35 = .ok (.ireturn, 1) := by decide +kernel
theorem dX8_stands_36 : decode cX8_stands 36 = .ok (.aload_n 2, 1) := by decide +kernel
theorem dX8_stands_37 : decode cX8_stands 37 = .ok (.iload_n 3, 1) := by decide +kernel
theorem dX8_stands_38 : decode cX8_stands 38 = .ok (.invokevirtual 188, 3) := by decide +kernel
theorem dX8_stands_41 : decode cX8_stands 41 = .ok (.ifCond .ne 5, 3) := by decide +kernel
theorem dX8_stands_44 : decode cX8_stands 44 = .ok (.iconst 0, 1) := by decide +kernel
theorem dX8_stands_45 : decode cX8_stands 45 = .ok (.ireturn, 1) := by decide +kernel
theorem dX8_stands_46 : decode cX8_stands 46 = .ok (.aload_n 2, 1) := by decide +kernel
theorem dX8_stands_47 : decode cX8_stands 47 = .ok (.getfield 145, 3) := by decide +kernel
theorem dX8_stands_50 : decode cX8_stands 50 = .ok (.iload_n 3, 1) := by decide +kernel
theorem dX8_stands_51 : decode cX8_stands 51 = .ok (.iaload, 1) := by decide +kernel
theorem dX8_stands_52 : decode cX8_stands 52 = .ok (.ifCond .ne 7, 3) := by decide +kernel
theorem dX8_stands_55 : decode cX8_stands 55 = .ok (.iconst 1, 1) := by decide +kernel
theorem dX8_stands_56 : decode cX8_stands 56 = .ok (.goto 4, 3) := by decide +kernel
theorem dX8_stands_59 : decode cX8_stands 59 = .ok (.iconst 2, 1) := by decide +kernel
theorem dX8_stands_60 : decode cX8_stands 60 = .ok (.ireturn, 1) := by decide +kernel
theorem dX8_winner_0 : decode cX8_winner 0 = .ok (.aload_n 0, 1) := by decide +kernel
theorem dX8_winner_1 : decode cX8_winner 1 = .ok (.getfield 10, 3) := by decide +kernel
theorem dX8_winner_4 : decode cX8_winner 4 = .ok (.iload_n 1, 1) := by decide +kernel
theorem dX8_winner_5 : decode cX8_winner 5 = .ok (.invokevirtual 129, 3) := by decide +kernel
theorem dX8_winner_8 : decode cX8_winner 8 = .ok (.astore_n 2, 1) := by decide +kernel
theorem dX8_winner_9 : decode cX8_winner 9 = .ok (.aload_n 2, 1) := by decide +kernel
theorem dX8_winner_10 : decode cX8_winner 10 = .ok (.ifnull 15, 3) := by decide +kernel
theorem dX8_winner_13 : decode cX8_winner 13 = .ok (.aload_n 2, 1) := by decide +kernel
theorem dX8_winner_14 : decode cX8_winner 14 = .ok (.getfield 162, 3) := by decide +kernel
theorem dX8_winner_17 : decode cX8_winner 17 = .ok (.iload_n 1, 1) := by decide +kernel
theorem dX8_winner_18 : decode cX8_winner 18 = .ok (.invokestatic 135, 3) := by decide +kernel
theorem dX8_winner_21 : decode cX8_winner 21 = .ok (.iaload, 1) := by decide +kernel
theorem dX8_winner_22 : decode cX8_winner 22 = .ok (.ifCond .ne 5, 3) := by decide +kernel
theorem dX8_winner_25 : decode cX8_winner 25 = .ok (.iconst (-1), 1) := by decide +kernel
theorem dX8_winner_26 : decode cX8_winner 26 = .ok (.ireturn, 1) := by decide +kernel
theorem dX8_winner_27 : decode cX8_winner 27 = .ok (.aload_n 2, 1) := by decide +kernel
theorem dX8_winner_28 : decode cX8_winner 28 = .ok (.getfield 191, 3) := by decide +kernel
theorem dX8_winner_31 : decode cX8_winner 31 = .ok (.iload_n 1, 1) := by decide +kernel
theorem dX8_winner_32 : decode cX8_winner 32 = .ok (.invokestatic 135, 3) := by decide +kernel
theorem dX8_winner_35 : decode cX8_winner 35 = .ok (.iaload, 1) := by decide +kernel
theorem dX8_winner_36 : decode cX8_winner 36 = .ok (.ireturn, 1) := by decide +kernel
theorem dX8_met_0 : decode cX8_met 0 = .ok (.aload_n 0, 1) := by decide +kernel
theorem dX8_met_1 : decode cX8_met 1 = .ok (.getfield 10, 3) := by decide +kernel
theorem dX8_met_4 : decode cX8_met 4 = .ok (.iload_n 1, 1) := by decide +kernel
theorem dX8_met_5 : decode cX8_met 5 = .ok (.invokevirtual 75, 3) := by decide +kernel
theorem dX8_met_8 : decode cX8_met 8 = .ok (.astore 4, 2) := by decide +kernel
theorem dX8_met_10 : decode cX8_met 10 = .ok (.aload 4, 2) := by decide +kernel
theorem dX8_met_12 : decode cX8_met 12 = .ok (.ifnull 14, 3) := by decide +kernel
theorem dX8_met_15 : decode cX8_met 15 = .ok (.iload_n 2, 1) := by decide +kernel
theorem dX8_met_16 : decode cX8_met 16 = .ok (.invokestatic 51, 3) := by decide +kernel
theorem dX8_met_19 : decode cX8_met 19 = .ok (.ifCond .eq 7, 3) := by decide +kernel
theorem dX8_met_22 : decode cX8_met 22 = .ok (.iload_n 3, 1) := by decide +kernel
theorem dX8_met_23 : decode cX8_met 23 = .ok (.ifCond .ge 5, 3) := by decide +kernel
theorem dX8_met_26 : decode cX8_met 26 = .ok (.iconst (-1), 1) := by decide +kernel
theorem dX8_met_27 : decode cX8_met 27 = .ok (.ireturn, 1) := by decide +kernel
theorem dX8_met_28 : decode cX8_met 28 = .ok (.aload 4, 2) := by decide +kernel
theorem dX8_met_30 : decode cX8_met 30 = .ok (.iload_n 2, 1) := by decide +kernel
theorem dX8_met_31 : decode cX8_met 31 = .ok (.iload_n 3, 1) := by decide +kernel
theorem dX8_met_32 : decode cX8_met 32 = .ok (.invokevirtual 194, 3) := by decide +kernel
theorem dX8_met_35 : decode cX8_met 35 = .ok (.ireturn, 1) := by decide +kernel
theorem dX8_meeting_0 : decode cX8_meeting 0 = .ok (.aload_n 0, 1) := by decide +kernel
theorem dX8_meeting_1 : decode cX8_meeting 1 = .ok (.getfield 10, 3) := by decide +kernel
theorem dX8_meeting_4 : decode cX8_meeting 4 = .ok (.iload_n 1, 1) := by decide +kernel
theorem dX8_meeting_5 : decode cX8_meeting 5 = .ok (.invokevirtual 75, 3) := by decide +kernel
theorem dX8_meeting_8 : decode cX8_meeting 8 = .ok (.astore 4, 2) := by decide +kernel
theorem dX8_meeting_10 : decode cX8_meeting 10 = .ok (.aload 4, 2) := by decide +kernel
theorem dX8_meeting_12 : decode cX8_meeting 12 = .ok (.ifnull 22, 3) := by decide +kernel
theorem dX8_meeting_15 : decode cX8_meeting 15 = .ok (.iload_n 2, 1) := by decide +kernel
theorem dX8_meeting_16 : decode cX8_meeting 16 = .ok (.invokestatic 51, 3) := by decide +kernel
theorem dX8_meeting_19 : decode cX8_meeting 19 = .ok (.ifCond .eq 15, 3) := by decide +kernel
theorem dX8_meeting_22 : decode cX8_meeting 22 = .ok (.iload_n 3, 1) := by decide +kernel
theorem dX8_meeting_23 : decode cX8_meeting 23 = .ok (.invokestatic 51, 3) := by decide +kernel
theorem dX8_meeting_26 : decode cX8_meeting 26 = .ok (.ifCond .eq 8, 3) := by decide +kernel
theorem dX8_meeting_29 : decode cX8_meeting 29 = .ok (.iload_n 2, 1) := by decide +kernel
theorem dX8_meeting_30 : decode cX8_meeting 30 = .ok (.iload_n 3, 1) := by decide +kernel
theorem dX8_meeting_31 : decode cX8_meeting 31 = .ok (.if_icmp .ne 5, 3) := by decide +kernel
theorem dX8_meeting_34 : decode cX8_meeting 34 = .ok (.iconst (-1), 1) := by decide +kernel
theorem dX8_meeting_35 : decode cX8_meeting 35 = .ok (.ireturn, 1) := by decide +kernel
theorem dX8_meeting_36 : decode cX8_meeting 36 = .ok (.aload 4, 2) := by decide +kernel
theorem dX8_meeting_38 : decode cX8_meeting 38 = .ok (.iload_n 2, 1) := by decide +kernel
theorem dX8_meeting_39 : decode cX8_meeting 39 = .ok (.invokevirtual 122, 3) := by decide +kernel
theorem dX8_meeting_42 : decode cX8_meeting 42 = .ok (.istore 5, 2) := by decide +kernel
theorem dX8_meeting_44 : decode cX8_meeting 44 = .ok (.aload 4, 2) := by decide +kernel
theorem dX8_meeting_46 : decode cX8_meeting 46 = .ok (.iload_n 3, 1) := by decide +kernel
theorem dX8_meeting_47 : decode cX8_meeting 47 = .ok (.invokevirtual 122, 3) := by decide +kernel
theorem dX8_meeting_50 : decode cX8_meeting 50 = .ok (.istore 6, 2) := by decide +kernel
theorem dX8_meeting_52 : decode cX8_meeting 52 = .ok (.iload 5, 2) := by decide +kernel
theorem dX8_meeting_54 : decode cX8_meeting 54 = .ok (.ifCond .lt 8, 3) := by decide +kernel
theorem dX8_meeting_57 : decode cX8_meeting 57 = .ok (.iload 6, 2) := by decide +kernel
theorem dX8_meeting_59 : decode cX8_meeting 59 = .ok (.ifCond .ge 5, 3) := by decide +kernel
theorem dX8_meeting_62 : decode cX8_meeting 62 = .ok (.iconst (-1), 1) := by decide +kernel
theorem dX8_meeting_63 : decode cX8_meeting 63 = .ok (.ireturn, 1) := by decide +kernel
theorem dX8_meeting_64 : decode cX8_meeting 64 = .ok (.aload 4, 2) := by decide +kernel
theorem dX8_meeting_66 : decode cX8_meeting 66 = .ok (.iload 5, 2) := by decide +kernel
theorem dX8_meeting_68 : decode cX8_meeting 68 = .ok (.iload 6, 2) := by decide +kernel
theorem dX8_meeting_70 : decode cX8_meeting 70 = .ok (.invokevirtual 197, 3) := by decide +kernel
theorem dX8_meeting_73 : decode cX8_meeting 73 = .ok (.istore 7, 2) := by decide +kernel
theorem dX8_meeting_75 : decode cX8_meeting 75 = .ok (.aload 4, 2) := by decide +kernel
theorem dX8_meeting_77 : decode cX8_meeting 77 = .ok (.iload_n 2, 1) := by decide +kernel
theorem dX8_meeting_78 : decode cX8_meeting 78 = .ok (.iload 7, 2) := by decide +kernel
theorem dX8_meeting_80 : decode cX8_meeting 80 = .ok (.invokevirtual 200, 3) := by decide +kernel
theorem dX8_meeting_83 : decode cX8_meeting 83 = .ok (.ifCond .ne 14, 3) := by decide +kernel
theorem dX8_meeting_86 : decode cX8_meeting 86 = .ok (.aload 4, 2) := by decide +kernel
theorem dX8_meeting_88 : decode cX8_meeting 88 = .ok (.iload_n 3, 1) := by decide +kernel
theorem dX8_meeting_89 : decode cX8_meeting 89 = .ok (.iload 7, 2) := by decide +kernel
theorem dX8_meeting_91 : decode cX8_meeting 91 = .ok (.invokevirtual 200, 3) := by decide +kernel
theorem dX8_meeting_94 : decode cX8_meeting 94 = .ok (.ifCond .eq 5, 3) := by decide +kernel
theorem dX8_meeting_97 : decode cX8_meeting 97 = .ok (.iconst (-1), 1) := by decide +kernel
theorem dX8_meeting_98 : decode cX8_meeting 98 = .ok (.ireturn, 1) := by decide +kernel
theorem dX8_meeting_99 : decode cX8_meeting 99 = .ok (.iload 7, 2) := by decide +kernel
theorem dX8_meeting_101 : decode cX8_meeting 101 = .ok (.ireturn, 1) := by decide +kernel
theorem dX8_court_0 : decode cX8_court 0 = .ok (.aload_n 0, 1) := by decide +kernel
theorem dX8_court_1 : decode cX8_court 1 = .ok (.getfield 10, 3) := by decide +kernel
theorem dX8_court_4 : decode cX8_court 4 = .ok (.iload_n 1, 1) := by decide +kernel
theorem dX8_court_5 : decode cX8_court 5 = .ok (.invokevirtual 204, 3) := by decide +kernel
theorem dX8_court_8 : decode cX8_court 8 = .ok (.astore 6, 2) := by decide +kernel
theorem dX8_court_10 : decode cX8_court 10 = .ok (.aload 6, 2) := by decide +kernel
theorem dX8_court_12 : decode cX8_court 12 = .ok (.ifnull 23, 3) := by decide +kernel
theorem dX8_court_15 : decode cX8_court 15 = .ok (.iload 4, 2) := by decide +kernel
theorem dX8_court_17 : decode cX8_court 17 = .ok (.ifCond .lt 18, 3) := by decide +kernel
theorem dX8_court_20 : decode cX8_court 20 = .ok (.iload 4, 2) := by decide +kernel
theorem dX8_court_22 : decode cX8_court 22 = .ok (.bipush 99, 2) := by decide +kernel
theorem dX8_court_24 : decode cX8_court 24 = .ok (.if_icmp .gt 11, 3) := by decide +kernel
theorem dX8_court_27 : decode cX8_court 27 = .ok (.iload 5, 2) := by decide +kernel
theorem dX8_court_29 : decode cX8_court 29 = .ok (.invokestatic 208, 3) := by decide +kernel
theorem dX8_court_32 : decode cX8_court 32 = .ok (.ifCond .ne 5, 3) := by decide +kernel
theorem dX8_court_35 : decode cX8_court 35 = .ok (.iconst (-1), 1) := by decide +kernel
theorem dX8_court_36 : decode cX8_court 36 = .ok (.ireturn, 1) := by decide +kernel
theorem dX8_court_37 : decode cX8_court 37 = .ok (.aload 6, 2) := by decide +kernel
theorem dX8_court_39 : decode cX8_court 39 = .ok (.iload_n 2, 1) := by decide +kernel
theorem dX8_court_40 : decode cX8_court 40 = .ok (.putfield 211, 3) := by decide +kernel
theorem dX8_court_43 : decode cX8_court 43 = .ok (.aload 6, 2) := by decide +kernel
theorem dX8_court_45 : decode cX8_court 45 = .ok (.iload_n 3, 1) := by decide +kernel
theorem dX8_court_46 : decode cX8_court 46 = .ok (.putfield 216, 3) := by decide +kernel
theorem dX8_court_49 : decode cX8_court 49 = .ok (.aload 6, 2) := by decide +kernel
theorem dX8_court_51 : decode cX8_court 51 = .ok (.iload 4, 2) := by decide +kernel
theorem dX8_court_53 : decode cX8_court 53 = .ok (.putfield 219, 3) := by decide +kernel
theorem dX8_court_56 : decode cX8_court 56 = .ok (.aload 6, 2) := by decide +kernel
theorem dX8_court_58 : decode cX8_court 58 = .ok (.iload 5, 2) := by decide +kernel
theorem dX8_court_60 : decode cX8_court 60 = .ok (.putfield 222, 3) := by decide +kernel
theorem dX8_court_63 : decode cX8_court 63 = .ok (.iconst 1, 1) := by decide +kernel
theorem dX8_court_64 : decode cX8_court 64 = .ok (.ireturn, 1) := by decide +kernel
theorem dX8_rule_0 : decode cX8_rule 0 = .ok (.iload_n 1, 1) := by decide +kernel
theorem dX8_rule_1 : decode cX8_rule 1 = .ok (.ifCond .lt 8, 3) := by decide +kernel
theorem dX8_rule_4 : decode cX8_rule 4 = .ok (.iload_n 1, 1) := by decide +kernel
theorem dX8_rule_5 : decode cX8_rule 5 = .ok (.iconst 4, 1) := by decide +kernel
theorem dX8_rule_6 : decode cX8_rule 6 = .ok (.if_icmp .lt 5, 3) := by decide +kernel
theorem dX8_rule_9 : decode cX8_rule 9 = .ok (.iconst (-1), 1) := by decide +kernel
theorem dX8_rule_10 : decode cX8_rule 10 = .ok (.ireturn, 1) := by decide +kernel
theorem dX8_rule_11 : decode cX8_rule 11 = .ok (.iload_n 2, 1) := by decide +kernel
theorem dX8_rule_12 : decode cX8_rule 12 = .ok (.ifCond .lt 20, 3) := by decide +kernel
theorem dX8_rule_15 : decode cX8_rule 15 = .ok (.iload_n 2, 1) := by decide +kernel
theorem dX8_rule_16 : decode cX8_rule 16 = .ok (.iload_n 1, 1) := by decide +kernel
theorem dX8_rule_17 : decode cX8_rule 17 = .ok (.iconst 3, 1) := by decide +kernel
theorem dX8_rule_18 : decode cX8_rule 18 = .ok (.if_icmp .ne 8, 3) := by decide +kernel
theorem dX8_rule_21 : decode cX8_rule 21 = .ok (.ldc 225, 2) := by decide +kernel
theorem dX8_rule_23 : decode cX8_rule 23 = .ok (.goto 6, 3) := by decide +kernel
theorem dX8_rule_26 : decode cX8_rule 26 = .ok (.sipush 2000, 3) := by decide +kernel
theorem dX8_rule_29 : decode cX8_rule 29 = .ok (.if_icmp .le 5, 3) := by decide +kernel
theorem dX8_rule_32 : decode cX8_rule 32 = .ok (.iconst (-1), 1) := by decide +kernel
theorem dX8_rule_33 : decode cX8_rule 33 = .ok (.ireturn, 1) := by decide +kernel
theorem dX8_rule_34 : decode cX8_rule 34 = .ok (.aload_n 0, 1) := by decide +kernel
theorem dX8_rule_35 : decode cX8_rule 35 = .ok (.getfield 10, 3) := by decide +kernel
theorem dX8_rule_38 : decode cX8_rule 38 = .ok (.getfield 226, 3) := by decide +kernel
theorem dX8_rule_41 : decode cX8_rule 41 = .ok (.iload_n 1, 1) := by decide +kernel
theorem dX8_rule_42 : decode cX8_rule 42 = .ok (.iaload, 1) := by decide +kernel
theorem dX8_rule_43 : decode cX8_rule 43 = .ok (.istore_n 3, 1) := by decide +kernel
theorem dX8_rule_44 : decode cX8_rule 44 = .ok (.aload_n 0, 1) := by decide +kernel
theorem dX8_rule_45 : decode cX8_rule 45 = .ok (.getfield 10, 3) := by decide +kernel
theorem dX8_rule_48 : decode cX8_rule 48 = .ok (.getfield 226, 3) := by decide +kernel
theorem dX8_rule_51 : decode cX8_rule 51 = .ok (.iload_n 1, 1) := by decide +kernel
theorem dX8_rule_52 : decode cX8_rule 52 = .ok (.iload_n 2, 1) := by decide +kernel
theorem dX8_rule_53 : decode cX8_rule 53 = .ok (.iastore, 1) := by decide +kernel
theorem dX8_rule_54 : decode cX8_rule 54 = .ok (.iload_n 3, 1) := by decide +kernel
theorem dX8_rule_55 : decode cX8_rule 55 = .ok (.ireturn, 1) := by decide +kernel
theorem dX8_rain_0 : decode cX8_rain 0 = .ok (.aload_n 0, 1) := by decide +kernel
theorem dX8_rain_1 : decode cX8_rain 1 = .ok (.getfield 10, 3) := by decide +kernel
theorem dX8_rain_4 : decode cX8_rain 4 = .ok (.getfield 229, 3) := by decide +kernel
theorem dX8_rain_7 : decode cX8_rain 7 = .ok (.iload_n 1, 1) := by decide +kernel
theorem dX8_rain_8 : decode cX8_rain 8 = .ok (.if_icmp .eq 7, 3) := by decide +kernel
theorem dX8_rain_11 : decode cX8_rain 11 = .ok (.iconst 1, 1) := by decide +kernel
theorem dX8_rain_12 : decode cX8_rain 12 = .ok (.goto 4, 3) := by decide +kernel
theorem dX8_rain_15 : decode cX8_rain 15 = .ok (.iconst 0, 1) := by decide +kernel
theorem dX8_rain_16 : decode cX8_rain 16 = .ok (.istore_n 2, 1) := by decide +kernel
theorem dX8_rain_17 : decode cX8_rain 17 = .ok (.aload_n 0, 1) := by decide +kernel
theorem dX8_rain_18 : decode cX8_rain 18 = .ok (.getfield 10, 3) := by decide +kernel
theorem dX8_rain_21 : decode cX8_rain 21 = .ok (.iload_n 1, 1) := by decide +kernel
theorem dX8_rain_22 : decode cX8_rain 22 = .ok (.putfield 229, 3) := by decide +kernel
theorem dX8_rain_25 : decode cX8_rain 25 = .ok (.iload_n 2, 1) := by decide +kernel
theorem dX8_rain_26 : decode cX8_rain 26 = .ok (.ireturn, 1) := by decide +kernel
theorem dX8_slot_0 : decode cX8_slot 0 = .ok (.aload_n 0, 1) := by decide +kernel
theorem dX8_slot_1 : decode cX8_slot 1 = .ok (.getfield 10, 3) := by decide +kernel
theorem dX8_slot_4 : decode cX8_slot 4 = .ok (.iload_n 1, 1) := by decide +kernel
theorem dX8_slot_5 : decode cX8_slot 5 = .ok (.invokevirtual 204, 3) := by decide +kernel
theorem dX8_slot_8 : decode cX8_slot 8 = .ok (.astore_n 3, 1) := by decide +kernel
theorem dX8_slot_9 : decode cX8_slot 9 = .ok (.aload_n 3, 1) := by decide +kernel
theorem dX8_slot_10 : decode cX8_slot 10 = .ok (.ifnull 10, 3) := by decide +kernel
theorem dX8_slot_13 : decode cX8_slot 13 = .ok (.iload_n 2, 1) := by decide +kernel
theorem dX8_slot_14 : decode cX8_slot 14 = .ok (.invokestatic 232, 3) := by decide +kernel
theorem dX8_slot_17 : decode cX8_slot 17 = .ok (.ifCond .ne 5, 3) := by decide +kernel
theorem dX8_slot_20 : decode cX8_slot 20 = .ok (.iconst (-1), 1) := by decide +kernel
theorem dX8_slot_21 : decode cX8_slot 21 = .ok (.ireturn, 1) := by decide +kernel
theorem dX8_slot_22 : decode cX8_slot 22 = .ok (.aload_n 3, 1) := by decide +kernel
theorem dX8_slot_23 : decode cX8_slot 23 = .ok (.iload_n 2, 1) := by decide +kernel
theorem dX8_slot_24 : decode cX8_slot 24 = .ok (.invokevirtual 235, 3) := by decide +kernel
theorem dX8_slot_27 : decode cX8_slot 27 = .ok (.ireturn, 1) := by decide +kernel
theorem dX8_gap_0 : decode cX8_gap 0 = .ok (.aload_n 0, 1) := by decide +kernel
theorem dX8_gap_1 : decode cX8_gap 1 = .ok (.getfield 10, 3) := by decide +kernel
theorem dX8_gap_4 : decode cX8_gap 4 = .ok (.iload_n 1, 1) := by decide +kernel
theorem dX8_gap_5 : decode cX8_gap 5 = .ok (.invokevirtual 204, 3) := by decide +kernel
theorem dX8_gap_8 : decode cX8_gap 8 = .ok (.astore_n 3, 1) := by decide +kernel
theorem dX8_gap_9 : decode cX8_gap 9 = .ok (.aload_n 3, 1) := by decide +kernel
theorem dX8_gap_10 : decode cX8_gap 10 = .ok (.ifnull 15, 3) := by decide +kernel
theorem dX8_gap_13 : decode cX8_gap 13 = .ok (.iload_n 2, 1) := by decide +kernel
theorem dX8_gap_14 : decode cX8_gap 14 = .ok (.iconst 1, 1) := by decide +kernel
theorem dX8_gap_15 : decode cX8_gap 15 = .ok (.if_icmp .lt 10, 3) := by decide +kernel
theorem dX8_gap_18 : decode cX8_gap 18 = .ok (.iload_n 2, 1) := by decide +kernel
theorem dX8_gap_19 : decode cX8_gap 19 = .ok (.sipush 1000, 3) := by decide +kernel
theorem dX8_gap_22 : decode cX8_gap 22 = .ok (.if_icmp .le 5, 3) := by decide +kernel
theorem dX8_gap_25 : decode cX8_gap 25 = .ok (.iconst (-1), 1) := by decide +kernel
theorem dX8_gap_26 : decode cX8_gap 26 = .ok (.ireturn, 1) := by decide +kernel
theorem dX8_gap_27 : decode cX8_gap 27 = .ok (.aload_n 3, 1) := by decide +kernel
theorem dX8_gap_28 : decode cX8_gap 28 = .ok (.iload_n 2, 1) := by decide +kernel
theorem dX8_gap_29 : decode cX8_gap 29 = .ok (.ineg, 1) := by decide +kernel
theorem dX8_gap_30 : decode cX8_gap 30 = .ok (.invokevirtual 235, 3) := by decide +kernel
theorem dX8_gap_33 : decode cX8_gap 33 = .ok (.ireturn, 1) := by decide +kernel
theorem dX8_drop_0 : decode cX8_drop 0 = .ok (.aload_n 0, 1) := by decide +kernel
theorem dX8_drop_1 : decode cX8_drop 1 = .ok (.getfield 10, 3) := by decide +kernel
theorem dX8_drop_4 : decode cX8_drop 4 = .ok (.iload_n 1, 1) := by decide +kernel
theorem dX8_drop_5 : decode cX8_drop 5 = .ok (.invokevirtual 204, 3) := by decide +kernel
theorem dX8_drop_8 : decode cX8_drop 8 = .ok (.astore_n 3, 1) := by decide +kernel
theorem dX8_drop_9 : decode cX8_drop 9 = .ok (.aload_n 3, 1) := by decide +kernel
theorem dX8_drop_10 : decode cX8_drop 10 = .ok (.ifnull 11, 3) := by decide +kernel
theorem dX8_drop_13 : decode cX8_drop 13 = .ok (.aload_n 3, 1) := by decide +kernel
theorem dX8_drop_14 : decode cX8_drop 14 = .ok (.iload_n 2, 1) := by decide +kernel
theorem dX8_drop_15 : decode cX8_drop 15 = .ok (.invokevirtual 238, 3) := by decide +kernel
theorem dX8_drop_18 : decode cX8_drop 18 = .ok (.ifCond .ne 5, 3) := by decide +kernel
theorem dX8_drop_21 : decode cX8_drop 21 = .ok (.iconst (-1), 1) := by decide +kernel
theorem dX8_drop_22 : decode cX8_drop 22 = .ok (.ireturn, 1) := by decide +kernel
theorem dX8_drop_23 : decode cX8_drop 23 = .ok (.aload_n 3, 1) := by decide +kernel
theorem dX8_drop_24 : decode cX8_drop 24 = .ok (.iload_n 2, 1) := by decide +kernel
theorem dX8_drop_25 : decode cX8_drop 25 = .ok (.invokevirtual 241, 3) := by decide +kernel
theorem dX8_drop_28 : decode cX8_drop 28 = .ok (.aload_n 3, 1) := by decide +kernel
theorem dX8_drop_29 : decode cX8_drop 29 = .ok (.getfield 244, 3) := by decide +kernel
theorem dX8_drop_32 : decode cX8_drop 32 = .ok (.ireturn, 1) := by decide +kernel
theorem dX8_held_0 : decode cX8_held 0 = .ok (.aload_n 0, 1) := by decide +kernel
theorem dX8_held_1 : decode cX8_held 1 = .ok (.getfield 10, 3) := by decide +kernel
theorem dX8_held_4 : decode cX8_held 4 = .ok (.iload_n 1, 1) := by decide +kernel
theorem dX8_held_5 : decode cX8_held 5 = .ok (.invokevirtual 204, 3) := by decide +kernel
theorem dX8_held_8 : decode cX8_held 8 = .ok (.astore_n 3, 1) := by decide +kernel
theorem dX8_held_9 : decode cX8_held 9 = .ok (.aload_n 3, 1) := by decide +kernel
theorem dX8_held_10 : decode cX8_held 10 = .ok (.ifnull 11, 3) := by decide +kernel
theorem dX8_held_13 : decode cX8_held 13 = .ok (.aload_n 3, 1) := by decide +kernel
theorem dX8_held_14 : decode cX8_held 14 = .ok (.iload_n 2, 1) := by decide +kernel
theorem dX8_held_15 : decode cX8_held 15 = .ok (.invokevirtual 238, 3) := by decide +kernel
theorem dX8_held_18 : decode cX8_held 18 = .ok (.ifCond .ne 7, 3) := by decide +kernel
theorem dX8_held_21 : decode cX8_held 21 = .ok (.sipush (-2000), 3) := by decide +kernel
theorem dX8_held_24 : decode cX8_held 24 = .ok (.ireturn, 1) := by decide +kernel
theorem dX8_held_25 : decode cX8_held 25 = .ok (.aload_n 3, 1) := by decide +kernel
theorem dX8_held_26 : decode cX8_held 26 = .ok (.getfield 245, 3) := by decide +kernel
theorem dX8_held_29 : decode cX8_held 29 = .ok (.iload_n 2, 1) := by decide +kernel
theorem dX8_held_30 : decode cX8_held 30 = .ok (.iaload, 1) := by decide +kernel
theorem dX8_held_31 : decode cX8_held 31 = .ok (.ireturn, 1) := by decide +kernel
theorem dX8_time_0 : decode cX8_time 0 = .ok (.aload_n 0, 1) := by decide +kernel
theorem dX8_time_1 : decode cX8_time 1 = .ok (.getfield 10, 3) := by decide +kernel
theorem dX8_time_4 : decode cX8_time 4 = .ok (.iload_n 1, 1) := by decide +kernel
theorem dX8_time_5 : decode cX8_time 5 = .ok (.invokevirtual 204, 3) := by decide +kernel
theorem dX8_time_8 : decode cX8_time 8 = .ok (.astore 4, 2) := by decide +kernel
theorem dX8_time_10 : decode cX8_time 10 = .ok (.aload 4, 2) := by decide +kernel
theorem dX8_time_12 : decode cX8_time 12 = .ok (.ifnull 21, 3) := by decide +kernel
theorem dX8_time_15 : decode cX8_time 15 = .ok (.aload 4, 2) := by decide +kernel
theorem dX8_time_17 : decode cX8_time 17 = .ok (.iload_n 2, 1) := by decide +kernel
theorem dX8_time_18 : decode cX8_time 18 = .ok (.invokevirtual 238, 3) := by decide +kernel
theorem dX8_time_21 : decode cX8_time 21 = .ok (.ifCond .eq 12, 3) := by decide +kernel
theorem dX8_time_24 : decode cX8_time 24 = .ok (.iload_n 3, 1) := by decide +kernel
theorem dX8_time_25 : decode cX8_time 25 = .ok (.ifCond .lt 8, 3) := by decide +kernel
theorem dX8_time_28 : decode cX8_time 28 = .ok (.iload_n 3, 1) := by decide +kernel
theorem dX8_time_29 : decode cX8_time 29 = .ok (.iconst 1, 1) := by decide +kernel
theorem dX8_time_30 : decode cX8_time 30 = .ok (.if_icmp .le 6, 3) := by decide +kernel
theorem dX8_time_33 : decode cX8_time 33 = .ok (.bipush (-2), 2) := by decide +kernel
theorem dX8_time_35 : decode cX8_time 35 = .ok (.ireturn, 1) := by decide +kernel
theorem dX8_time_36 : decode cX8_time 36 = .ok (.iload_n 2, 1) := by decide +kernel
theorem dX8_time_37 : decode cX8_time 37 = .ok (.bipush 6, 2) := by decide +kernel
theorem dX8_time_39 : decode cX8_time 39 = .ok (.imul, 1) := by decide +kernel
theorem dX8_time_40 : decode cX8_time 40 = .ok (.iload_n 1, 1) := by decide +kernel
theorem dX8_time_41 : decode cX8_time 41 = .ok (.iadd, 1) := by decide +kernel
theorem dX8_time_42 : decode cX8_time 42 = .ok (.istore 5, 2) := by decide +kernel
theorem dX8_time_44 : decode cX8_time 44 = .ok (.aload_n 0, 1) := by decide +kernel
theorem dX8_time_45 : decode cX8_time 45 = .ok (.getfield 40, 3) := by decide +kernel
theorem dX8_time_48 : decode cX8_time 48 = .ok (.aload_n 0, 1) := by decide +kernel
theorem dX8_time_49 : decode cX8_time 49 = .ok (.getfield 10, 3) := by decide +kernel
theorem dX8_time_52 : decode cX8_time 52 = .ok (.iload 5, 2) := by decide +kernel
theorem dX8_time_54 : decode cX8_time 54 = .ok (.invokevirtual 248, 3) := by decide +kernel
theorem dX8_time_57 : decode cX8_time 57 = .ok (.iload_n 3, 1) := by decide +kernel
theorem dX8_time_58 : decode cX8_time 58 = .ok (.ifCond .ne 16, 3) := by decide +kernel
theorem dX8_time_61 : decode cX8_time 61 = .ok (.aload_n 0, 1) := by decide +kernel
theorem dX8_time_62 : decode cX8_time 62 = .ok (.getfield 40, 3) := by decide +kernel
theorem dX8_time_65 : decode cX8_time 65 = .ok (.getfield 252, 3) := by decide +kernel
theorem dX8_time_68 : decode cX8_time 68 = .ok (.iload 5, 2) := by decide +kernel
theorem dX8_time_70 : decode cX8_time 70 = .ok (.iaload, 1) := by decide +kernel
theorem dX8_time_71 : decode cX8_time 71 = .ok (.goto 13, 3) := by decide +kernel
theorem dX8_time_74 : decode cX8_time 74 = .ok (.aload_n 0, 1) := by decide +kernel
theorem dX8_time_75 : decode cX8_time 75 = .ok (.getfield 40, 3) := by decide +kernel
theorem dX8_time_78 : decode cX8_time 78 = .ok (.getfield 255, 3) := by decide +kernel
theorem dX8_time_81 : decode cX8_time 81 = .ok (.iload 5, 2) := by decide +kernel
theorem dX8_time_83 : decode cX8_time 83 = .ok (.iaload, 1) := by decide +kernel
theorem dX8_time_84 : decode cX8_time 84 = .ok (.ireturn, 1) := by decide +kernel
theorem dX8_over_0 : decode cX8_over 0 = .ok (.aload_n 0, 1) := by decide +kernel
theorem dX8_over_1 : decode cX8_over 1 = .ok (.getfield 10, 3) := by decide +kernel
theorem dX8_over_4 : decode cX8_over 4 = .ok (.iload_n 1, 1) := by decide +kernel
theorem dX8_over_5 : decode cX8_over 5 = .ok (.invokevirtual 129, 3) := by decide +kernel
theorem dX8_over_8 : decode cX8_over 8 = .ok (.astore_n 3, 1) := by decide +kernel
theorem dX8_over_9 : decode cX8_over 9 = .ok (.aload_n 3, 1) := by decide +kernel
theorem dX8_over_10 : decode cX8_over 10 = .ok (.ifnull 10, 3) := by decide +kernel
theorem dX8_over_13 : decode cX8_over 13 = .ok (.iload_n 2, 1) := by decide +kernel
theorem dX8_over_14 : decode cX8_over 14 = .ok (.invokestatic 208, 3) := by decide +kernel
theorem dX8_over_17 : decode cX8_over 17 = .ok (.ifCond .ne 5, 3) := by decide +kernel
theorem dX8_over_20 : decode cX8_over 20 = .ok (.iconst (-1), 1) := by decide +kernel
theorem dX8_over_21 : decode cX8_over 21 = .ok (.ireturn, 1) := by decide +kernel
theorem dX8_over_22 : decode cX8_over 22 = .ok (.iload_n 1, 1) := by decide +kernel
theorem dX8_over_23 : decode cX8_over 23 = .ok (.invokestatic 135, 3) := by decide +kernel
theorem dX8_over_26 : decode cX8_over 26 = .ok (.istore 4, 2) := by decide +kernel
theorem dX8_over_28 : decode cX8_over 28 = .ok (.aload_n 3, 1) := by decide +kernel
theorem dX8_over_29 : decode cX8_over 29 = .ok (.getfield 162, 3) := by decide +kernel
theorem dX8_over_32 : decode cX8_over 32 = .ok (.iload 4, 2) := by decide +kernel
theorem dX8_over_34 : decode cX8_over 34 = .ok (.iaload, 1) := by decide +kernel
theorem dX8_over_35 : decode cX8_over 35 = .ok (.ifCond .ne 6, 3) := by decide +kernel
theorem dX8_over_38 : decode cX8_over 38 = .ok (.bipush (-6), 2) := by decide +kernel
theorem dX8_over_40 : decode cX8_over 40 = .ok (.ireturn, 1) := by decide +kernel
theorem dX8_over_41 : decode cX8_over 41 = .ok (.aload_n 3, 1) := by decide +kernel
theorem dX8_over_42 : decode cX8_over 42 = .ok (.getfield 258, 3) := by decide +kernel
theorem dX8_over_45 : decode cX8_over 45 = .ok (.iload 4, 2) := by decide +kernel
theorem dX8_over_47 : decode cX8_over 47 = .ok (.iload_n 2, 1) := by decide +kernel
theorem dX8_over_48 : decode cX8_over 48 = .ok (.iastore, 1) := by decide +kernel
theorem dX8_over_49 : decode cX8_over 49 = .ok (.iconst 1, 1) := by decide +kernel
theorem dX8_over_50 : decode cX8_over 50 = .ok (.ireturn, 1) := by decide +kernel
theorem dX8_end_0 : decode cX8_end 0 = .ok (.aload_n 0, 1) := by decide +kernel
theorem dX8_end_1 : decode cX8_end 1 = .ok (.getfield 10, 3) := by decide +kernel
theorem dX8_end_4 : decode cX8_end 4 = .ok (.iload_n 1, 1) := by decide +kernel
theorem dX8_end_5 : decode cX8_end 5 = .ok (.invokevirtual 129, 3) := by decide +kernel
theorem dX8_end_8 : decode cX8_end 8 = .ok (.astore_n 2, 1) := by decide +kernel
theorem dX8_end_9 : decode cX8_end 9 = .ok (.aload_n 2, 1) := by decide +kernel
theorem dX8_end_10 : decode cX8_end 10 = .ok (.ifnonnull 5, 3) := by decide +kernel
theorem dX8_end_13 : decode cX8_end 13 = .ok (.iconst (-1), 1) := by decide +kernel
theorem dX8_end_14 : decode cX8_end 14 = .ok (.ireturn, 1) := by decide +kernel
theorem dX8_end_15 : decode cX8_end 15 = .ok (.aload_n 2, 1) := by decide +kernel
theorem dX8_end_16 : decode cX8_end 16 = .ok (.getfield 258, 3) := by decide +kernel
theorem dX8_end_19 : decode cX8_end 19 = .ok (.iload_n 1, 1) := by decide +kernel
theorem dX8_end_20 : decode cX8_end 20 = .ok (.invokestatic 135, 3) := by decide +kernel
theorem dX8_end_23 : decode cX8_end 23 = .ok (.iaload, 1) := by decide +kernel
theorem dX8_end_24 : decode cX8_end 24 = .ok (.ireturn, 1) := by decide +kernel
theorem dX8_why_0 : decode cX8_why 0 = .ok (.aload_n 0, 1) := by decide +kernel
theorem dX8_why_1 : decode cX8_why 1 = .ok (.getfield 33, 3) := by decide +kernel
theorem dX8_why_4 : decode cX8_why 4 = .ok (.aload_n 0, 1) := by decide +kernel
theorem dX8_why_5 : decode cX8_why 5 = .ok (.getfield 10, 3) := by decide +kernel
theorem dX8_why_8 : decode cX8_why 8 = .ok (.invokevirtual 261, 3) := by decide +kernel
theorem dX8_why_11 : decode cX8_why 11 = .ok (.aload_n 0, 1) := by decide +kernel
theorem dX8_why_12 : decode cX8_why 12 = .ok (.getfield 33, 3) := by decide +kernel
theorem dX8_why_15 : decode cX8_why 15 = .ok (.aload_n 0, 1) := by decide +kernel
theorem dX8_why_16 : decode cX8_why 16 = .ok (.getfield 10, 3) := by decide +kernel
theorem dX8_why_19 : decode cX8_why 19 = .ok (.iload_n 1, 1) := by decide +kernel
theorem dX8_why_20 : decode cX8_why 20 = .ok (.iload_n 2, 1) := by decide +kernel
theorem dX8_why_21 : decode cX8_why 21 = .ok (.invokevirtual 265, 3) := by decide +kernel
theorem dX8_why_24 : decode cX8_why 24 = .ok (.ireturn, 1) := by decide +kernel
theorem dX8_worth_0 : decode cX8_worth 0 = .ok (.iload_n 1, 1) := by decide +kernel
theorem dX8_worth_1 : decode cX8_worth 1 = .ok (.invokestatic 232, 3) := by decide +kernel
theorem dX8_worth_4 : decode cX8_worth 4 = .ok (.ifCond .eq 14, 3) := by decide +kernel
theorem dX8_worth_7 : decode cX8_worth 7 = .ok (.iload_n 2, 1) := by decide +kernel
theorem dX8_worth_8 : decode cX8_worth 8 = .ok (.ifCond .lt 10, 3) := by decide +kernel
theorem dX8_worth_11 : decode cX8_worth 11 = .ok (.iload_n 2, 1) := by decide +kernel
theorem dX8_worth_12 : decode cX8_worth 12 = .ok (.sipush 999, 3) := by decide +kernel
theorem dX8_worth_15 : decode cX8_worth 15 = .ok (.if_icmp .le 5, 3) := by decide +kernel
theorem dX8_worth_18 : decode cX8_worth 18 = .ok (.iconst (-1), 1) := by decide +kernel
theorem dX8_worth_19 : decode cX8_worth 19 = .ok (.ireturn, 1) := by decide +kernel
theorem dX8_worth_20 : decode cX8_worth 20 = .ok (.aload_n 0, 1) := by decide +kernel
theorem dX8_worth_21 : decode cX8_worth 21 = .ok (.getfield 10, 3) := by decide +kernel
theorem dX8_worth_24 : decode cX8_worth 24 = .ok (.getfield 269, 3) := by decide +kernel
theorem dX8_worth_27 : decode cX8_worth 27 = .ok (.iload_n 1, 1) := by decide +kernel
theorem dX8_worth_28 : decode cX8_worth 28 = .ok (.iload_n 2, 1) := by decide +kernel
theorem dX8_worth_29 : decode cX8_worth 29 = .ok (.iastore, 1) := by decide +kernel
theorem dX8_worth_30 : decode cX8_worth 30 = .ok (.iconst 1, 1) := by decide +kernel
theorem dX8_worth_31 : decode cX8_worth 31 = .ok (.ireturn, 1) := by decide +kernel
theorem dX8_fitted_0 : decode cX8_fitted 0 = .ok (.aload_n 0, 1) := by decide +kernel
theorem dX8_fitted_1 : decode cX8_fitted 1 = .ok (.getfield 10, 3) := by decide +kernel
theorem dX8_fitted_4 : decode cX8_fitted 4 = .ok (.iload_n 1, 1) := by decide +kernel
theorem dX8_fitted_5 : decode cX8_fitted 5 = .ok (.invokevirtual 204, 3) := by decide +kernel
theorem dX8_fitted_8 : decode cX8_fitted 8 = .ok (.ifnonnull 5, 3) := by decide +kernel
theorem dX8_fitted_11 : decode cX8_fitted 11 = .ok (.iconst (-1), 1) := by decide +kernel
theorem dX8_fitted_12 : decode cX8_fitted 12 = .ok (.ireturn, 1) := by decide +kernel
theorem dX8_fitted_13 : decode cX8_fitted 13 = .ok (.aload_n 0, 1) := by decide +kernel
theorem dX8_fitted_14 : decode cX8_fitted 14 = .ok (.getfield 47, 3) := by decide +kernel
theorem dX8_fitted_17 : decode cX8_fitted 17 = .ok (.aload_n 0, 1) := by decide +kernel
theorem dX8_fitted_18 : decode cX8_fitted 18 = .ok (.getfield 10, 3) := by decide +kernel
theorem dX8_fitted_21 : decode cX8_fitted 21 = .ok (.iload_n 1, 1) := by decide +kernel
theorem dX8_fitted_22 : decode cX8_fitted 22 = .ok (.iload_n 2, 1) := by decide +kernel
theorem dX8_fitted_23 : decode cX8_fitted 23 = .ok (.invokevirtual 272, 3) := by decide +kernel
theorem dX8_fitted_26 : decode cX8_fitted 26 = .ok (.ireturn, 1) := by decide +kernel
theorem dX8_isPlayer_0 : decode cX8_isPlayer 0 = .ok (.iload_n 0, 1) := by decide +kernel
theorem dX8_isPlayer_1 : decode cX8_isPlayer 1 = .ok (.ifCond .lt 13, 3) := by decide +kernel
theorem dX8_isPlayer_4 : decode cX8_isPlayer 4 = .ok (.iload_n 0, 1) := by decide +kernel
theorem dX8_isPlayer_5 : decode cX8_isPlayer 5 = .ok (.bipush 40, 2) := by decide +kernel
theorem dX8_isPlayer_7 : decode cX8_isPlayer 7 = .ok (.if_icmp .ge 7, 3) := by decide +kernel
theorem dX8_isPlayer_10 : decode cX8_isPlayer 10 = .ok (.iconst 1, 1) := by decide +kernel
theorem dX8_isPlayer_11 : decode cX8_isPlayer 11 = .ok (.goto 4, 3) := by decide +kernel
theorem dX8_isPlayer_14 : decode cX8_isPlayer 14 = .ok (.iconst 0, 1) := by decide +kernel
theorem dX8_isPlayer_15 : decode cX8_isPlayer 15 = .ok (.ireturn, 1) := by decide +kernel
theorem dX8_isSize_0 : decode cX8_isSize 0 = .ok (.iload_n 0, 1) := by decide +kernel
theorem dX8_isSize_1 : decode cX8_isSize 1 = .ok (.iconst 4, 1) := by decide +kernel
theorem dX8_isSize_2 : decode cX8_isSize 2 = .ok (.if_icmp .eq 15, 3) := by decide +kernel
theorem dX8_isSize_5 : decode cX8_isSize 5 = .ok (.iload_n 0, 1) := by decide +kernel
theorem dX8_isSize_6 : decode cX8_isSize 6 = .ok (.bipush 8, 2) := by decide +kernel
theorem dX8_isSize_8 : decode cX8_isSize 8 = .ok (.if_icmp .eq 9, 3) := by decide +kernel
theorem dX8_isSize_11 : decode cX8_isSize 11 = .ok (.iload_n 0, 1) := by decide +kernel
theorem dX8_isSize_12 : decode cX8_isSize 12 = .ok (.bipush 16, 2) := by decide +kernel
theorem dX8_isSize_14 : decode cX8_isSize 14 = .ok (.if_icmp .ne 7, 3) := by decide +kernel
theorem dX8_isSize_17 : decode cX8_isSize 17 = .ok (.iconst 1, 1) := by decide +kernel
theorem dX8_isSize_18 : decode cX8_isSize 18 = .ok (.goto 4, 3) := by decide +kernel
theorem dX8_isSize_21 : decode cX8_isSize 21 = .ok (.iconst 0, 1) := by decide +kernel
theorem dX8_isSize_22 : decode cX8_isSize 22 = .ok (.ireturn, 1) := by decide +kernel
theorem dX8_isLength_0 : decode cX8_isLength 0 = .ok (.iload_n 0, 1) := by decide +kernel
theorem dX8_isLength_1 : decode cX8_isLength 1 = .ok (.iconst 2, 1) := by decide +kernel
theorem dX8_isLength_2 : decode cX8_isLength 2 = .ok (.if_icmp .eq 8, 3) := by decide +kernel
theorem dX8_isLength_5 : decode cX8_isLength 5 = .ok (.iload_n 0, 1) := by decide +kernel
theorem dX8_isLength_6 : decode cX8_isLength 6 = .ok (.iconst 3, 1) := by decide +kernel
theorem dX8_isLength_7 : decode cX8_isLength 7 = .ok (.if_icmp .ne 7, 3) := by decide +kernel
theorem dX8_isLength_10 : decode cX8_isLength 10 = .ok (.iconst 1, 1) := by decide +kernel
theorem dX8_isLength_11 : decode cX8_isLength 11 = .ok (.goto 4, 3) := by decide +kernel
theorem dX8_isLength_14 : decode cX8_isLength 14 = .ok (.iconst 0, 1) := by decide +kernel
theorem dX8_isLength_15 : decode cX8_isLength 15 = .ok (.ireturn, 1) := by decide +kernel
theorem dX8_isSide_0 : decode cX8_isSide 0 = .ok (.iload_n 0, 1) := by decide +kernel
theorem dX8_isSide_1 : decode cX8_isSide 1 = .ok (.ifCond .eq 8, 3) := by decide +kernel
theorem dX8_isSide_4 : decode cX8_isSide 4 = .ok (.iload_n 0, 1) := by decide +kernel
theorem dX8_isSide_5 : decode cX8_isSide 5 = .ok (.iconst 1, 1) := by decide +kernel
theorem dX8_isSide_6 : decode cX8_isSide 6 = .ok (.if_icmp .ne 7, 3) := by decide +kernel
theorem dX8_isSide_9 : decode cX8_isSide 9 = .ok (.iconst 1, 1) := by decide +kernel
theorem dX8_isSide_10 : decode cX8_isSide 10 = .ok (.goto 4, 3) := by decide +kernel
theorem dX8_isSide_13 : decode cX8_isSide 13 = .ok (.iconst 0, 1) := by decide +kernel
theorem dX8_isSide_14 : decode cX8_isSide 14 = .ok (.ireturn, 1) := by decide +kernel
theorem dX8_isMinute_0 : decode cX8_isMinute 0 = .ok (.iload_n 0, 1) := by decide +kernel
theorem dX8_isMinute_1 : decode cX8_isMinute 1 = .ok (.ifCond .lt 13, 3) := by decide +kernel
theorem dX8_isMinute_4 : decode cX8_isMinute 4 = .ok (.iload_n 0, 1) := by decide +kernel
theorem dX8_isMinute_5 : decode cX8_isMinute 5 = .ok (.ldc 225, 2) := by decide +kernel
theorem dX8_isMinute_7 : decode cX8_isMinute 7 = .ok (.if_icmp .gt 7, 3) := by decide +kernel
theorem dX8_isMinute_10 : decode cX8_isMinute 10 = .ok (.iconst 1, 1) := by decide +kernel
theorem dX8_isMinute_11 : decode cX8_isMinute 11 = .ok (.goto 4, 3) := by decide +kernel
theorem dX8_isMinute_14 : decode cX8_isMinute 14 = .ok (.iconst 0, 1) := by decide +kernel
theorem dX8_isMinute_15 : decode cX8_isMinute 15 = .ok (.ireturn, 1) := by decide +kernel
theorem dX8_isMatchCode_0 : decode cX8_isMatchCode 0 = .ok (.iload_n 0, 1) := by decide +kernel
theorem dX8_isMatchCode_1 : decode cX8_isMatchCode 1 = .ok (.ifCond .lt 22, 3) := by decide +kernel
theorem dX8_isMatchCode_4 : decode cX8_isMatchCode 4 = .ok (.iload_n 0, 1) := by decide +kernel
theorem dX8_isMatchCode_5 : decode cX8_isMatchCode 5 = .ok (.bipush 64, 2) := by decide +kernel
theorem dX8_isMatchCode_7 : decode cX8_isMatchCode 7 = .ok (.if_icmp .ge 16, 3) := by decide +kernel
theorem dX8_isMatchCode_10 : decode cX8_isMatchCode 10 = .ok (.iload_n 0, 1) := by decide +kernel
theorem dX8_isMatchCode_11 : decode cX8_isMatchCode 11 = .ok (.invokestatic 135, 3) := by decide +kernel
theorem dX8_isMatchCode_14 : decode cX8_isMatchCode 14 = .ok (.bipush 15, 2) := by decide +kernel
theorem dX8_isMatchCode_16 : decode cX8_isMatchCode 16 = .ok (.if_icmp .eq 7, 3) := by decide +kernel
theorem dX8_isMatchCode_19 : decode cX8_isMatchCode 19 = .ok (.iconst 1, 1) := by decide +kernel
theorem dX8_isMatchCode_20 : decode cX8_isMatchCode 20 = .ok (.goto 4, 3) := by decide +kernel
theorem dX8_isMatchCode_23 : decode cX8_isMatchCode 23 = .ok (.iconst 0, 1) := by decide +kernel
theorem dX8_isMatchCode_24 : decode cX8_isMatchCode 24 = .ok (.ireturn, 1) := by decide +kernel
theorem dX8_drawOf_0 : decode cX8_drawOf 0 = .ok (.iload_n 0, 1) := by decide +kernel
theorem dX8_drawOf_1 : decode cX8_drawOf 1 = .ok (.iconst 4, 1) := by decide +kernel
theorem dX8_drawOf_2 : decode cX8_drawOf 2 = .ok (.ishr, 1) := by decide +kernel
theorem dX8_drawOf_3 : decode cX8_drawOf 3 = .ok (.ireturn, 1) := by decide +kernel
theorem dX8_numberOf_0 : decode cX8_numberOf 0 = .ok (.iload_n 0, 1) := by decide +kernel
theorem dX8_numberOf_1 : decode cX8_numberOf 1 = .ok (.bipush 15, 2) := by decide +kernel
theorem dX8_numberOf_3 : decode cX8_numberOf 3 = .ok (.iand, 1) := by decide +kernel
theorem dX8_numberOf_4 : decode cX8_numberOf 4 = .ok (.ireturn, 1) := by decide +kernel
theorem dX8_refusalToPlay_0 : decode cX8_refusalToPlay 0 = .ok (.aload_n 0, 1) := by decide +kernel
theorem dX8_refusalToPlay_1 : decode cX8_refusalToPlay 1 = .ok (.getfield 162, 3) := by decide +kernel
theorem dX8_refusalToPlay_4 : decode cX8_refusalToPlay 4 = .ok (.iload_n 1, 1) := by decide +kernel
theorem dX8_refusalToPlay_5 : decode cX8_refusalToPlay 5 = .ok (.iaload, 1) := by decide +kernel
theorem dX8_refusalToPlay_6 : decode cX8_refusalToPlay 6 = .ok (.ifCond .eq 6, 3) := by decide +kernel
theorem dX8_refusalToPlay_9 : decode cX8_refusalToPlay 9 = .ok (.bipush (-6), 2) := by decide +kernel
theorem dX8_refusalToPlay_11 : decode cX8_refusalToPlay 11 = .ok (.ireturn, 1) := by decide +kernel
theorem dX8_refusalToPlay_12 : decode cX8_refusalToPlay 12 = .ok (.aload_n 0, 1) := by decide +kernel
theorem dX8_refusalToPlay_13 : decode cX8_refusalToPlay 13 = .ok (.iload_n 1, 1) := by decide +kernel
theorem dX8_refusalToPlay_14 : decode cX8_refusalToPlay 14 = .ok (.invokevirtual 188, 3) := by decide +kernel
theorem dX8_refusalToPlay_17 : decode cX8_refusalToPlay 17 = .ok (.ifCond .eq 7, 3) := by decide +kernel
theorem dX8_refusalToPlay_20 : decode cX8_refusalToPlay 20 = .ok (.iconst 0, 1) := by decide +kernel
theorem dX8_refusalToPlay_21 : decode cX8_refusalToPlay 21 = .ok (.goto 5, 3) := by decide +kernel
theorem dX8_refusalToPlay_24 : decode cX8_refusalToPlay 24 = .ok (.bipush (-5), 2) := by decide +kernel
theorem dX8_refusalToPlay_26 : decode cX8_refusalToPlay 26 = .ok (.ireturn, 1) := by decide +kernel
theorem dX9_init_0 : decode cX9_init 0 = .ok (.aload_n 0, 1) := by decide +kernel
theorem dX9_init_1 : decode cX9_init 1 = .ok (.invokespecial 1, 3) := by decide +kernel
theorem dX9_init_4 : decode cX9_init 4 = .ok (.aload_n 0, 1) := by decide +kernel
theorem dX9_init_5 : decode cX9_init 5 = .ok (.bipush 40, 2) := by decide +kernel
theorem dX9_init_7 : decode cX9_init 7 = .ok (.newarray .int, 2) := by decide +kernel
theorem dX9_init_9 : decode cX9_init 9 = .ok (.putfield 9, 3) := by decide +kernel
theorem dX9_init_12 : decode cX9_init 12 = .ok (.aload_n 0, 1) := by decide +kernel
theorem dX9_init_13 : decode cX9_init 13 = .ok (.iconst 4, 1) := by decide +kernel
theorem dX9_init_14 : decode cX9_init 14 = .ok (.newarray .int, 2) := by decide +kernel
theorem dX9_init_16 : decode cX9_init 16 = .ok (.putfield 13, 3) := by decide +kernel
theorem dX9_init_19 : decode cX9_init 19 = .ok (.aload_n 0, 1) := by decide +kernel
theorem dX9_init_20 : decode cX9_init 20 = .ok (.iconst 4, 1) := by decide +kernel
theorem dX9_init_21 : decode cX9_init 21 = .ok (.newarray .int, 2) := by decide +kernel
theorem dX9_init_23 : decode cX9_init 23 = .ok (.putfield 16, 3) := by decide +kernel
theorem dX9_init_26 : decode cX9_init 26 = .ok (.aload_n 0, 1) := by decide +kernel
theorem dX9_init_27 : decode cX9_init 27 = .ok (.iconst 4, 1) := by decide +kernel
theorem dX9_init_28 : decode cX9_init 28 = .ok (.newarray .int, 2) := by decide +kernel
theorem dX9_init_30 : decode cX9_init 30 = .ok (.putfield 19, 3) := by decide +kernel
theorem dX9_init_33 : decode cX9_init 33 = .ok (.aload_n 0, 1) := by decide +kernel
theorem dX9_init_34 : decode cX9_init 34 = .ok (.bipush 64, 2) := by decide +kernel
theorem dX9_init_36 : decode cX9_init 36 = .ok (.newarray .int, 2) := by decide +kernel
theorem dX9_init_38 : decode cX9_init 38 = .ok (.putfield 22, 3) := by decide +kernel
theorem dX9_init_41 : decode cX9_init 41 = .ok (.aload_n 0, 1) := by decide +kernel
theorem dX9_init_42 : decode cX9_init 42 = .ok (.iconst 4, 1) := by decide +kernel
theorem dX9_init_43 : decode cX9_init 43 = .ok (.newarray .int, 2) := by decide +kernel
theorem dX9_init_45 : decode cX9_init 45 = .ok (.putfield 25, 3) := by decide +kernel
theorem dX9_init_48 : decode cX9_init 48 = .ok (.aload_n 0, 1) := by decide +kernel
theorem dX9_init_49 : decode cX9_init 49 = .ok (.iconst 4, 1) := by decide +kernel
theorem dX9_init_50 : decode cX9_init 50 = .ok (.newarray .boolean, 2) := by decide +kernel
theorem dX9_init_52 : decode cX9_init 52 = .ok (.putfield 28, 3) := by decide +kernel
theorem dX9_init_55 : decode cX9_init 55 = .ok (.aload_n 0, 1) := by decide +kernel
theorem dX9_init_56 : decode cX9_init 56 = .ok (.bipush 64, 2) := by decide +kernel
theorem dX9_init_58 : decode cX9_init 58 = .ok (.newarray .int, 2) := by decide +kernel
theorem dX9_init_60 : decode cX9_init 60 = .ok (.putfield 32, 3) := by decide +kernel
theorem dX9_init_63 : decode cX9_init 63 = .ok (.aload_n 0, 1) := by decide +kernel
theorem dX9_init_64 : decode cX9_init 64 = .ok (.sipush 160, 3) := by decide +kernel
theorem dX9_init_67 : decode cX9_init 67 = .ok (.newarray .boolean, 2) := by decide +kernel
theorem dX9_init_69 : decode cX9_init 69 = .ok (.putfield 35, 3) := by decide +kernel
theorem dX9_init_72 : decode cX9_init 72 = .ok (.aload_n 0, 1) := by decide +kernel
theorem dX9_init_73 : decode cX9_init 73 = .ok (.bipush 64, 2) := by decide +kernel
theorem dX9_init_75 : decode cX9_init 75 = .ok (.newarray .int, 2) := by decide +kernel
theorem dX9_init_77 : decode cX9_init 77 = .ok (.putfield 38, 3) := by decide +kernel
theorem dX9_init_80 : decode cX9_init 80 = .ok (.aload_n 0, 1) := by decide +kernel
theorem dX9_init_81 : decode cX9_init 81 = .ok (.sipush 19200, 3) := by decide +kernel
theorem dX9_init_84 : decode cX9_init 84 = .ok (.newarray .byte, 2) := by decide +kernel
theorem dX9_init_86 : decode cX9_init 86 = .ok (.putfield 41, 3) := by decide +kernel
theorem dX9_init_89 : decode cX9_init 89 = .ok (.aload_n 0, 1) := by decide +kernel
theorem dX9_init_90 : decode cX9_init 90 = .ok (.bipush 64, 2) := by decide +kernel
theorem dX9_init_92 : decode cX9_init 92 = .ok (.newarray .int, 2) := by decide +kernel
theorem dX9_init_94 : decode cX9_init 94 = .ok (.putfield 45, 3) := by decide +kernel
theorem dX9_init_97 : decode cX9_init 97 = .ok (.aload_n 0, 1) := by decide +kernel
theorem dX9_init_98 : decode cX9_init 98 = .ok (.bipush 64, 2) := by decide +kernel
theorem dX9_init_100 : decode cX9_init 100 = .ok (.newarray .int, 2) := by decide +kernel
theorem dX9_init_102 : decode cX9_init 102 = .ok (.putfield 48, 3) := by decide +kernel
theorem dX9_init_105 : decode cX9_init 105 = .ok (.aload_n 0, 1) := by decide +kernel
theorem dX9_init_106 : decode cX9_init 106 = .ok (.bipush 64, 2) := by decide +kernel
theorem dX9_init_108 : decode cX9_init 108 = .ok (.newarray .int, 2) := by decide +kernel
theorem dX9_init_110 : decode cX9_init 110 = .ok (.putfield 51, 3) := by decide +kernel
theorem dX9_init_113 : decode cX9_init 113 = .ok (.aload_n 0, 1) := by decide +kernel
theorem dX9_init_114 : decode cX9_init 114 = .ok (.bipush 64, 2) := by decide +kernel
theorem dX9_init_116 : decode cX9_init 116 = .ok (.newarray .int, 2) := by decide +kernel
theorem dX9_init_118 : decode cX9_init 118 = .ok (.putfield 54, 3) := by decide +kernel
theorem dX9_init_121 : decode cX9_init 121 = .ok (.aload_n 0, 1) := by decide +kernel
theorem dX9_init_122 : decode cX9_init 122 = .ok (.bipush 6, 2) := by decide +kernel
theorem dX9_init_124 : decode cX9_init 124 = .ok (.newarray .boolean, 2) := by decide +kernel
theorem dX9_init_126 : decode cX9_init 126 = .ok (.putfield 57, 3) := by decide +kernel
theorem dX9_init_129 : decode cX9_init 129 = .ok (.aload_n 0, 1) := by decide +kernel
theorem dX9_init_130 : decode cX9_init 130 = .ok (.bipush 6, 2) := by decide +kernel
theorem dX9_init_132 : decode cX9_init 132 = .ok (.newarray .boolean, 2) := by decide +kernel
theorem dX9_init_134 : decode cX9_init 134 = .ok (.putfield 60, 3) := by decide +kernel
theorem dX9_init_137 : decode cX9_init 137 = .ok (.aload_n 0, 1) := by decide +kernel
theorem dX9_init_138 : decode cX9_init 138 = .ok (.bipush 6, 2) := by decide +kernel
theorem dX9_init_140 : decode cX9_init 140 = .ok (.newarray .int, 2) := by decide +kernel
theorem dX9_init_142 : decode cX9_init 142 = .ok (.putfield 63, 3) := by decide +kernel
theorem dX9_init_145 : decode cX9_init 145 = .ok (.aload_n 0, 1) := by decide +kernel
theorem dX9_init_146 : decode cX9_init 146 = .ok (.bipush 6, 2) := by decide +kernel
theorem dX9_init_148 : decode cX9_init 148 = .ok (.newarray .int, 2) := by decide +kernel
theorem dX9_init_150 : decode cX9_init 150 = .ok (.putfield 66, 3) := by decide +kernel
theorem dX9_init_153 : decode cX9_init 153 = .ok (.aload_n 0, 1) := by decide +kernel
theorem dX9_init_154 : decode cX9_init 154 = .ok (.bipush 6, 2) := by decide +kernel
theorem dX9_init_156 : decode cX9_init 156 = .ok (.newarray .int, 2) := by decide +kernel
theorem dX9_init_158 : decode cX9_init 158 = .ok (.putfield 69, 3) := by decide +kernel
theorem dX9_init_161 : decode cX9_init 161 = .ok (.aload_n 0, 1) := by decide +kernel
theorem dX9_init_162 : decode cX9_init 162 = .ok (.bipush 36, 2) := by decide +kernel
theorem dX9_init_164 : decode cX9_init 164 = .ok (.newarray .int, 2) := by decide +kernel
theorem dX9_init_166 : decode cX9_init 166 = .ok (.putfield 72, 3) := by decide +kernel
theorem dX9_init_169 : decode cX9_init 169 = .ok (.aload_n 0, 1) := by decide +kernel
theorem dX9_init_170 : decode cX9_init 170 = .ok (.iconst 4, 1) := by decide +kernel
theorem dX9_init_171 : decode cX9_init 171 = .ok (.newarray .int, 2) := by decide +kernel
theorem dX9_init_173 : decode cX9_init 173 = .ok (.putfield 75, 3) := by decide +kernel
theorem dX9_init_176 : decode cX9_init 176 = .ok (.aload_n 0, 1) := by decide +kernel
theorem dX9_init_177 : decode cX9_init 177 = .ok (.bipush 16, 2) := by decide +kernel
theorem dX9_init_179 : decode cX9_init 179 = .ok (.newarray .int, 2) := by decide +kernel
theorem dX9_init_181 : decode cX9_init 181 = .ok (.putfield 78, 3) := by decide +kernel
theorem dX9_init_184 : decode cX9_init 184 = .ok (.aload_n 0, 1) := by decide +kernel
theorem dX9_init_185 : decode cX9_init 185 = .ok (.iconst 2, 1) := by decide +kernel
theorem dX9_init_186 : decode cX9_init 186 = .ok (.newarray .int, 2) := by decide +kernel
theorem dX9_init_188 : decode cX9_init 188 = .ok (.putfield 81, 3) := by decide +kernel
theorem dX9_init_191 : decode cX9_init 191 = .ok (.aload_n 0, 1) := by decide +kernel
theorem dX9_init_192 : decode cX9_init 192 = .ok (.iconst 2, 1) := by decide +kernel
theorem dX9_init_193 : decode cX9_init 193 = .ok (.newarray .int, 2) := by decide +kernel
theorem dX9_init_195 : decode cX9_init 195 = .ok (.putfield 84, 3) := by decide +kernel
theorem dX9_init_198 : decode cX9_init 198 = .ok (.aload_n 0, 1) := by decide +kernel
theorem dX9_init_199 : decode cX9_init 199 = .ok (.iconst 2, 1) := by decide +kernel
theorem dX9_init_200 : decode cX9_init 200 = .ok (.newarray .int, 2) := by decide +kernel
theorem dX9_init_202 : decode cX9_init 202 = .ok (.putfield 87, 3) := by decide +kernel
theorem dX9_init_205 : decode cX9_init 205 = .ok (.aload_n 0, 1) := by decide +kernel
theorem dX9_init_206 : decode cX9_init 206 = .ok (.bipush 10, 2) := by decide +kernel
theorem dX9_init_208 : decode cX9_init 208 = .ok (.newarray .int, 2) := by decide +kernel
theorem dX9_init_210 : decode cX9_init 210 = .ok (.putfield 90, 3) := by decide +kernel
theorem dX9_init_213 : decode cX9_init 213 = .ok (.aload_n 0, 1) := by decide +kernel
theorem dX9_init_214 : decode cX9_init 214 = .ok (.bipush 36, 2) := by decide +kernel
theorem dX9_init_216 : decode cX9_init 216 = .ok (.newarray .boolean, 2) := by decide +kernel
theorem dX9_init_218 : decode cX9_init 218 = .ok (.putfield 93, 3) := by decide +kernel
theorem dX9_init_221 : decode cX9_init 221 = .ok (.aload_n 0, 1) := by decide +kernel
theorem dX9_init_222 : decode cX9_init 222 = .ok (.bipush 36, 2) := by decide +kernel
theorem dX9_init_224 : decode cX9_init 224 = .ok (.newarray .int, 2) := by decide +kernel
theorem dX9_init_226 : decode cX9_init 226 = .ok (.putfield 96, 3) := by decide +kernel
theorem dX9_init_229 : decode cX9_init 229 = .ok (.aload_n 0, 1) := by decide +kernel
theorem dX9_init_230 : decode cX9_init 230 = .ok (.bipush 36, 2) := by decide +kernel
theorem dX9_init_232 : decode cX9_init 232 = .ok (.newarray .int, 2) := by decide +kernel
theorem dX9_init_234 : decode cX9_init 234 = .ok (.putfield 99, 3) := by decide +kernel
theorem dX9_init_237 : decode cX9_init 237 = .ok (.aload_n 0, 1) := by decide +kernel
theorem dX9_init_238 : decode cX9_init 238 = .ok (.bipush 40, 2) := by decide +kernel
theorem dX9_init_240 : decode cX9_init 240 = .ok (.newarray .boolean, 2) := by decide +kernel
theorem dX9_init_242 : decode cX9_init 242 = .ok (.putfield 102, 3) := by decide +kernel
theorem dX9_init_245 : decode cX9_init 245 = .ok (.aload_n 0, 1) := by decide +kernel
theorem dX9_init_246 : decode cX9_init 246 = .ok (.bipush 64, 2) := by decide +kernel
theorem dX9_init_248 : decode cX9_init 248 = .ok (.newarray .boolean, 2) := by decide +kernel
theorem dX9_init_250 : decode cX9_init 250 = .ok (.putfield 105, 3) := by decide +kernel
theorem dX9_init_253 : decode cX9_init 253 = .ok (.aload_n 0, 1) := by decide +kernel
theorem dX9_init_254 : decode cX9_init 254 = .ok (.bipush 6, 2) := by decide +kernel
theorem dX9_init_256 : decode cX9_init 256 = .ok (.newarray .boolean, 2) := by decide +kernel
theorem dX9_init_258 : decode cX9_init 258 = .ok (.putfield 108, 3) := by decide +kernel
theorem dX9_init_261 : decode cX9_init 261 = .ok (.iconst 0, 1) := by decide +kernel
theorem dX9_init_262 : decode cX9_init 262 = .ok (.istore_n 1, 1) := by decide +kernel
theorem dX9_init_263 : decode cX9_init 263 = .ok (.iload_n 1, 1) := by decide +kernel
theorem dX9_init_264 : decode cX9_init 264 = .ok (.bipush 6, 2) := by decide +kernel
theorem dX9_init_266 : decode cX9_init 266 = .ok (.if_icmp .ge 18, 3) := by decide +kernel
theorem dX9_init_269 : decode cX9_init 269 = .ok (.aload_n 0, 1) := by decide +kernel
theorem dX9_init_270 : decode cX9_init 270 = .ok (.getfield 66, 3) := by decide +kernel
theorem dX9_init_273 : decode cX9_init 273 = .ok (.iload_n 1, 1) := by decide +kernel
theorem dX9_init_274 : decode cX9_init 274 = .ok (.sipush 600, 3) := by decide +kernel
theorem dX9_init_277 : decode cX9_init 277 = .ok (.iastore, 1) := by decide +kernel
theorem dX9_init_278 : decode cX9_init 278 = .ok (.iinc 1 1, 3) := by decide +kernel
theorem dX9_init_281 : decode cX9_init 281 = .ok (.goto (-18), 3) := by decide +kernel
theorem dX9_init_284 : decode cX9_init 284 = .ok (.aload_n 0, 1) := by decide +kernel
theorem dX9_init_285 : decode cX9_init 285 = .ok (.getfield 75, 3) := by decide +kernel
theorem dX9_init_288 : decode cX9_init 288 = .ok (.iconst 0, 1) := by decide +kernel
theorem dX9_init_289 : decode cX9_init 289 = .ok (.bipush 60, 2) := by decide +kernel
theorem dX9_init_291 : decode cX9_init 291 = .ok (.iastore, 1) := by decide +kernel
theorem dX9_init_292 : decode cX9_init 292 = .ok (.aload_n 0, 1) := by decide +kernel
theorem dX9_init_293 : decode cX9_init 293 = .ok (.getfield 75, 3) := by decide +kernel
theorem dX9_init_296 : decode cX9_init 296 = .ok (.iconst 1, 1) := by decide +kernel
theorem dX9_init_297 : decode cX9_init 297 = .ok (.bipush 90, 2) := by decide +kernel
theorem dX9_init_299 : decode cX9_init 299 = .ok (.iastore, 1) := by decide +kernel
theorem dX9_init_300 : decode cX9_init 300 = .ok (.aload_n 0, 1) := by decide +kernel
theorem dX9_init_301 : decode cX9_init 301 = .ok (.getfield 75, 3) := by decide +kernel
theorem dX9_init_304 : decode cX9_init 304 = .ok (.iconst 2, 1) := by decide +kernel
theorem dX9_init_305 : decode cX9_init 305 = .ok (.sipush 150, 3) := by decide +kernel
theorem dX9_init_308 : decode cX9_init 308 = .ok (.iastore, 1) := by decide +kernel
theorem dX9_init_309 : decode cX9_init 309 = .ok (.aload_n 0, 1) := by decide +kernel
theorem dX9_init_310 : decode cX9_init 310 = .ok (.getfield 75, 3) := by decide +kernel
theorem dX9_init_313 : decode cX9_init 313 = .ok (.iconst 3, 1) := by decide +kernel
theorem dX9_init_314 : decode cX9_init 314 = .ok (.sipush 1300, 3) := by decide +kernel
theorem dX9_init_317 : decode cX9_init 317 = .ok (.iastore, 1) := by decide +kernel
theorem dX9_init_318 : decode cX9_init 318 = .ok (.return_, 1) := by decide +kernel
theorem dX9_in_0 : decode cX9_in 0 = .ok (.iload_n 0, 1) := by decide +kernel
theorem dX9_in_1 : decode cX9_in 1 = .ok (.iload_n 1, 1) := by decide +kernel
theorem dX9_in_2 : decode cX9_in 2 = .ok (.if_icmp .lt 12, 3) := by decide +kernel
theorem dX9_in_5 : decode cX9_in 5 = .ok (.iload_n 0, 1) := by decide +kernel
theorem dX9_in_6 : decode cX9_in 6 = .ok (.iload_n 2, 1) := by decide +kernel
theorem dX9_in_7 : decode cX9_in 7 = .ok (.if_icmp .gt 7, 3) := by decide +kernel
theorem dX9_in_10 : decode cX9_in 10 = .ok (.iconst 1, 1) := by decide +kernel
theorem dX9_in_11 : decode cX9_in 11 = .ok (.goto 4, 3) := by decide +kernel
theorem dX9_in_14 : decode cX9_in 14 = .ok (.iconst 0, 1) := by decide +kernel
theorem dX9_in_15 : decode cX9_in 15 = .ok (.ireturn, 1) := by decide +kernel
theorem dX9_isPlayer_0 : decode cX9_isPlayer 0 = .ok (.iload_n 0, 1) := by decide +kernel
theorem dX9_isPlayer_1 : decode cX9_isPlayer 1 = .ok (.iconst 0, 1) := by decide +kernel
theorem dX9_isPlayer_2 : decode cX9_isPlayer 2 = .ok (.bipush 39, 2) := by decide +kernel
theorem dX9_isPlayer_4 : decode cX9_isPlayer 4 = .ok (.invokestatic 111, 3) := by decide +kernel
theorem dX9_isPlayer_7 : decode cX9_isPlayer 7 = .ok (.ireturn, 1) := by decide +kernel
theorem dX9_isDraw_0 : decode cX9_isDraw 0 = .ok (.iload_n 1, 1) := by decide +kernel
theorem dX9_isDraw_1 : decode cX9_isDraw 1 = .ok (.iconst 0, 1) := by decide +kernel
theorem dX9_isDraw_2 : decode cX9_isDraw 2 = .ok (.iconst 3, 1) := by decide +kernel
theorem dX9_isDraw_3 : decode cX9_isDraw 3 = .ok (.invokestatic 111, 3) := by decide +kernel
theorem dX9_isDraw_6 : decode cX9_isDraw 6 = .ok (.ifCond .eq 16, 3) := by decide +kernel
theorem dX9_isDraw_9 : decode cX9_isDraw 9 = .ok (.aload_n 0, 1) := by decide +kernel
theorem dX9_isDraw_10 : decode cX9_isDraw 10 = .ok (.getfield 13, 3) := by decide +kernel
theorem dX9_isDraw_13 : decode cX9_isDraw 13 = .ok (.iload_n 1, 1) := by decide +kernel
theorem dX9_isDraw_14 : decode cX9_isDraw 14 = .ok (.iaload, 1) := by decide +kernel
theorem dX9_isDraw_15 : decode cX9_isDraw 15 = .ok (.ifCond .le 7, 3) := by decide +kernel
theorem dX9_isDraw_18 : decode cX9_isDraw 18 = .ok (.iconst 1, 1) := by decide +kernel
theorem dX9_isDraw_19 : decode cX9_isDraw 19 = .ok (.goto 4, 3) := by decide +kernel
theorem dX9_isDraw_22 : decode cX9_isDraw 22 = .ok (.iconst 0, 1) := by decide +kernel
theorem dX9_isDraw_23 : decode cX9_isDraw 23 = .ok (.ireturn, 1) := by decide +kernel
theorem dX9_land_0 : decode cX9_land 0 = .ok (.iload_n 1, 1) := by decide +kernel
theorem dX9_land_1 : decode cX9_land 1 = .ok (.invokestatic 115, 3) := by decide +kernel
theorem dX9_land_4 : decode cX9_land 4 = .ok (.ifCond .eq 13, 3) := by decide +kernel
theorem dX9_land_7 : decode cX9_land 7 = .ok (.iload_n 2, 1) := by decide +kernel
theorem dX9_land_8 : decode cX9_land 8 = .ok (.iconst 0, 1) := by decide +kernel
theorem dX9_land_9 : decode cX9_land 9 = .ok (.bipush 9, 2) := by decide +kernel
theorem dX9_land_11 : decode cX9_land 11 = .ok (.invokestatic 111, 3) := by decide +kernel
theorem dX9_land_14 : decode cX9_land 14 = .ok (.ifCond .ne 5, 3) := by decide +kernel
theorem dX9_land_17 : decode cX9_land 17 = .ok (.iconst (-1), 1) := by decide +kernel
theorem dX9_land_18 : decode cX9_land 18 = .ok (.ireturn, 1) := by decide +kernel
theorem dX9_land_19 : decode cX9_land 19 = .ok (.aload_n 0, 1) := by decide +kernel
theorem dX9_land_20 : decode cX9_land 20 = .ok (.getfield 9, 3) := by decide +kernel
theorem dX9_land_23 : decode cX9_land 23 = .ok (.iload_n 1, 1) := by decide +kernel
theorem dX9_land_24 : decode cX9_land 24 = .ok (.iaload, 1) := by decide +kernel
theorem dX9_land_25 : decode cX9_land 25 = .ok (.istore_n 3, 1) := by decide +kernel
theorem dX9_land_26 : decode cX9_land 26 = .ok (.aload_n 0, 1) := by decide +kernel
theorem dX9_land_27 : decode cX9_land 27 = .ok (.getfield 9, 3) := by decide +kernel
theorem dX9_land_30 : decode cX9_land 30 = .ok (.iload_n 1, 1) := by decide +kernel
theorem dX9_land_31 : decode cX9_land 31 = .ok (.iload_n 2, 1) := by decide +kernel
theorem dX9_land_32 : decode cX9_land 32 = .ok (.iastore, 1) := by decide +kernel
theorem dX9_land_33 : decode cX9_land 33 = .ok (.iload_n 3, 1) := by decide +kernel
theorem dX9_land_34 : decode cX9_land 34 = .ok (.ireturn, 1) := by decide +kernel
theorem dX9_draw_0 : decode cX9_draw 0 = .ok (.iload_n 1, 1) := by decide +kernel
theorem dX9_draw_1 : decode cX9_draw 1 = .ok (.iconst 0, 1) := by decide +kernel
theorem dX9_draw_2 : decode cX9_draw 2 = .ok (.iconst 3, 1) := by decide +kernel
theorem dX9_draw_3 : decode cX9_draw 3 = .ok (.invokestatic 111, 3) := by decide +kernel
theorem dX9_draw_6 : decode cX9_draw 6 = .ok (.ifCond .eq 29, 3) := by decide +kernel
theorem dX9_draw_9 : decode cX9_draw 9 = .ok (.iload_n 2, 1) := by decide +kernel
theorem dX9_draw_10 : decode cX9_draw 10 = .ok (.iconst 4, 1) := by decide +kernel
theorem dX9_draw_11 : decode cX9_draw 11 = .ok (.if_icmp .eq 15, 3) := by decide +kernel
theorem dX9_draw_14 : decode cX9_draw 14 = .ok (.iload_n 2, 1) := by decide +kernel
theorem dX9_draw_15 : decode cX9_draw 15 = .ok (.bipush 8, 2) := by decide +kernel
theorem dX9_draw_17 : decode cX9_draw 17 = .ok (.if_icmp .eq 9, 3) := by decide +kernel
theorem dX9_draw_20 : decode cX9_draw 20 = .ok (.iload_n 2, 1) := by decide +kernel
theorem dX9_draw_21 : decode cX9_draw 21 = .ok (.bipush 16, 2) := by decide +kernel
theorem dX9_draw_23 : decode cX9_draw 23 = .ok (.if_icmp .ne 12, 3) := by decide +kernel
theorem dX9_draw_26 : decode cX9_draw 26 = .ok (.iload_n 3, 1) := by decide +kernel
theorem dX9_draw_27 : decode cX9_draw 27 = .ok (.iconst 2, 1) := by decide +kernel
theorem dX9_draw_28 : decode cX9_draw 28 = .ok (.iconst 3, 1) := by decide +kernel
theorem dX9_draw_29 : decode cX9_draw 29 = .ok (.invokestatic 111, 3) := by decide +kernel
theorem dX9_draw_32 : decode cX9_draw 32 = .ok (.ifCond .ne 5, 3) := by decide +kernel
theorem dX9_draw_35 : decode cX9_draw 35 = .ok (.iconst (-1), 1) := by decide +kernel
theorem dX9_draw_36 : decode cX9_draw 36 = .ok (.ireturn, 1) := by decide +kernel
theorem dX9_draw_37 : decode cX9_draw 37 = .ok (.aload_n 0, 1) := by decide +kernel
theorem dX9_draw_38 : decode cX9_draw 38 = .ok (.getfield 13, 3) := by decide +kernel
theorem dX9_draw_41 : decode cX9_draw 41 = .ok (.iload_n 1, 1) := by decide +kernel
theorem dX9_draw_42 : decode cX9_draw 42 = .ok (.iload_n 2, 1) := by decide +kernel
theorem dX9_draw_43 : decode cX9_draw 43 = .ok (.iastore, 1) := by decide +kernel
theorem dX9_draw_44 : decode cX9_draw 44 = .ok (.aload_n 0, 1) := by decide +kernel
theorem dX9_draw_45 : decode cX9_draw 45 = .ok (.getfield 16, 3) := by decide +kernel
theorem dX9_draw_48 : decode cX9_draw 48 = .ok (.iload_n 1, 1) := by decide +kernel
theorem dX9_draw_49 : decode cX9_draw 49 = .ok (.iload_n 3, 1) := by decide +kernel
theorem dX9_draw_50 : decode cX9_draw 50 = .ok (.iastore, 1) := by decide +kernel
theorem dX9_draw_51 : decode cX9_draw 51 = .ok (.aload_n 0, 1) := by decide +kernel
theorem dX9_draw_52 : decode cX9_draw 52 = .ok (.getfield 19, 3) := by decide +kernel
theorem dX9_draw_55 : decode cX9_draw 55 = .ok (.iload_n 1, 1) := by decide +kernel
theorem dX9_draw_56 : decode cX9_draw 56 = .ok (.iconst 0, 1) := by decide +kernel
theorem dX9_draw_57 : decode cX9_draw 57 = .ok (.iastore, 1) := by decide +kernel
theorem dX9_draw_58 : decode cX9_draw 58 = .ok (.aload_n 0, 1) := by decide +kernel
theorem dX9_draw_59 : decode cX9_draw 59 = .ok (.getfield 25, 3) := by decide +kernel
theorem dX9_draw_62 : decode cX9_draw 62 = .ok (.iload_n 1, 1) := by decide +kernel
theorem dX9_draw_63 : decode cX9_draw 63 = .ok (.iconst 0, 1) := by decide +kernel
theorem dX9_draw_64 : decode cX9_draw 64 = .ok (.iastore, 1) := by decide +kernel
theorem dX9_draw_65 : decode cX9_draw 65 = .ok (.aload_n 0, 1) := by decide +kernel
theorem dX9_draw_66 : decode cX9_draw 66 = .ok (.getfield 28, 3) := by decide +kernel
theorem dX9_draw_69 : decode cX9_draw 69 = .ok (.iload_n 1, 1) := by decide +kernel
theorem dX9_draw_70 : decode cX9_draw 70 = .ok (.iconst 0, 1) := by decide +kernel
theorem dX9_draw_71 : decode cX9_draw 71 = .ok (.bastore, 1) := by decide +kernel
theorem dX9_draw_72 : decode cX9_draw 72 = .ok (.iconst 0, 1) := by decide +kernel
theorem dX9_draw_73 : decode cX9_draw 73 = .ok (.istore 4, 2) := by decide +kernel
theorem dX9_draw_75 : decode cX9_draw 75 = .ok (.iload 4, 2) := by decide +kernel
theorem dX9_draw_77 : decode cX9_draw 77 = .ok (.bipush 40, 2) := by decide +kernel
theorem dX9_draw_79 : decode cX9_draw 79 = .ok (.if_icmp .ge 22, 3) := by decide +kernel
theorem dX9_draw_82 : decode cX9_draw 82 = .ok (.aload_n 0, 1) := by decide +kernel
theorem dX9_draw_83 : decode cX9_draw 83 = .ok (.getfield 35, 3) := by decide +kernel
theorem dX9_draw_86 : decode cX9_draw 86 = .ok (.bipush 40, 2) := by decide +kernel
theorem dX9_draw_88 : decode cX9_draw 88 = .ok (.iload_n 1, 1) := by decide +kernel
theorem dX9_draw_89 : decode cX9_draw 89 = .ok (.imul, 1) := by decide +kernel
theorem dX9_draw_90 : decode cX9_draw 90 = .ok (.iload 4, 2) := by decide +kernel
theorem dX9_draw_92 : decode cX9_draw 92 = .ok (.iadd, 1) := by decide +kernel
theorem dX9_draw_93 : decode cX9_draw 93 = .ok (.iconst 0, 1) := by decide +kernel
theorem dX9_draw_94 : decode cX9_draw 94 = .ok (.bastore, 1) := by decide +kernel
theorem dX9_draw_95 : decode cX9_draw 95 = .ok (.iinc 4 1, 3) := by decide +kernel
theorem dX9_draw_98 : decode cX9_draw 98 = .ok (.goto (-23), 3) := by decide +kernel
theorem dX9_draw_101 : decode cX9_draw 101 = .ok (.iconst 0, 1) := by decide +kernel
theorem dX9_draw_102 : decode cX9_draw 102 = .ok (.istore 4, 2) := by decide +kernel
theorem dX9_draw_104 : decode cX9_draw 104 = .ok (.iload 4, 2) := by decide +kernel
theorem dX9_draw_106 : decode cX9_draw 106 = .ok (.bipush 16, 2) := by decide +kernel
theorem dX9_draw_108 : decode cX9_draw 108 = .ok (.if_icmp .ge 20, 3) := by decide +kernel
theorem dX9_draw_111 : decode cX9_draw 111 = .ok (.aload_n 0, 1) := by decide +kernel
theorem dX9_draw_112 : decode cX9_draw 112 = .ok (.bipush 16, 2) := by decide +kernel
theorem dX9_draw_114 : decode cX9_draw 114 = .ok (.iload_n 1, 1) := by decide +kernel
theorem dX9_draw_115 : decode cX9_draw 115 = .ok (.imul, 1) := by decide +kernel
theorem dX9_draw_116 : decode cX9_draw 116 = .ok (.iload 4, 2) := by decide +kernel
theorem dX9_draw_118 : decode cX9_draw 118 = .ok (.iadd, 1) := by decide +kernel
theorem dX9_draw_119 : decode cX9_draw 119 = .ok (.invokevirtual 119, 3) := by decide +kernel
theorem dX9_draw_122 : decode cX9_draw 122 = .ok (.iinc 4 1, 3) := by decide +kernel
theorem dX9_draw_125 : decode cX9_draw 125 = .ok (.goto (-21), 3) := by decide +kernel
theorem dX9_draw_128 : decode cX9_draw 128 = .ok (.iconst 1, 1) := by decide +kernel
theorem dX9_draw_129 : decode cX9_draw 129 = .ok (.ireturn, 1) := by decide +kernel
theorem dX9_clear_0 : decode cX9_clear 0 = .ok (.aload_n 0, 1) := by decide +kernel
theorem dX9_clear_1 : decode cX9_clear 1 = .ok (.getfield 38, 3) := by decide +kernel
theorem dX9_clear_4 : decode cX9_clear 4 = .ok (.iload_n 1, 1) := by decide +kernel
theorem dX9_clear_5 : decode cX9_clear 5 = .ok (.iconst 0, 1) := by decide +kernel
theorem dX9_clear_6 : decode cX9_clear 6 = .ok (.iastore, 1) := by decide +kernel
theorem dX9_clear_7 : decode cX9_clear 7 = .ok (.aload_n 0, 1) := by decide +kernel
theorem dX9_clear_8 : decode cX9_clear 8 = .ok (.getfield 45, 3) := by decide +kernel
theorem dX9_clear_11 : decode cX9_clear 11 = .ok (.iload_n 1, 1) := by decide +kernel
theorem dX9_clear_12 : decode cX9_clear 12 = .ok (.iconst 0, 1) := by decide +kernel
theorem dX9_clear_13 : decode cX9_clear 13 = .ok (.iastore, 1) := by decide +kernel
theorem dX9_clear_14 : decode cX9_clear 14 = .ok (.aload_n 0, 1) := by decide +kernel
theorem dX9_clear_15 : decode cX9_clear 15 = .ok (.getfield 51, 3) := by decide +kernel
theorem dX9_clear_18 : decode cX9_clear 18 = .ok (.iload_n 1, 1) := by decide +kernel
theorem dX9_clear_19 : decode cX9_clear 19 = .ok (.iconst (-1), 1) := by decide +kernel
theorem dX9_clear_20 : decode cX9_clear 20 = .ok (.iastore, 1) := by decide +kernel
theorem dX9_clear_21 : decode cX9_clear 21 = .ok (.return_, 1) := by decide +kernel
theorem dX9_enter_0 : decode cX9_enter 0 = .ok (.aload_n 0, 1) := by decide +kernel
theorem dX9_enter_1 : decode cX9_enter 1 = .ok (.iload_n 1, 1) := by decide +kernel
theorem dX9_enter_2 : decode cX9_enter 2 = .ok (.invokevirtual 123, 3) := by decide +kernel
theorem dX9_enter_5 : decode cX9_enter 5 = .ok (.ifCond .eq 10, 3) := by decide +kernel
theorem dX9_enter_8 : decode cX9_enter 8 = .ok (.iload_n 2, 1) := by decide +kernel
theorem dX9_enter_9 : decode cX9_enter 9 = .ok (.invokestatic 115, 3) := by decide +kernel
theorem dX9_enter_12 : decode cX9_enter 12 = .ok (.ifCond .ne 5, 3) := by decide +kernel
theorem dX9_enter_15 : decode cX9_enter 15 = .ok (.iconst (-1), 1) := by decide +kernel
theorem dX9_enter_16 : decode cX9_enter 16 = .ok (.ireturn, 1) := by decide +kernel
theorem dX9_enter_17 : decode cX9_enter 17 = .ok (.aload_n 0, 1) := by decide +kernel
theorem dX9_enter_18 : decode cX9_enter 18 = .ok (.getfield 28, 3) := by decide +kernel
theorem dX9_enter_21 : decode cX9_enter 21 = .ok (.iload_n 1, 1) := by decide +kernel
theorem dX9_enter_22 : decode cX9_enter 22 = .ok (.baload, 1) := by decide +kernel
theorem dX9_enter_23 : decode cX9_enter 23 = .ok (.ifCond .eq 6, 3) := by decide +kernel
theorem dX9_enter_26 : decode cX9_enter 26 = .ok (.bipush (-4), 2) := by decide +kernel
theorem dX9_enter_28 : decode cX9_enter 28 = .ok (.ireturn, 1) := by decide +kernel
theorem dX9_enter_29 : decode cX9_enter 29 = .ok (.aload_n 0, 1) := by decide +kernel
theorem dX9_enter_30 : decode cX9_enter 30 = .ok (.getfield 35, 3) := by decide +kernel
theorem dX9_enter_33 : decode cX9_enter 33 = .ok (.bipush 40, 2) := by decide +kernel
theorem dX9_enter_35 : decode cX9_enter 35 = .ok (.iload_n 1, 1) := by decide +kernel
theorem dX9_enter_36 : decode cX9_enter 36 = .ok (.imul, 1) := by decide +kernel
theorem dX9_enter_37 : decode cX9_enter 37 = .ok (.iload_n 2, 1) := by decide +kernel
theorem dX9_enter_38 : decode cX9_enter 38 = .ok (.iadd, 1) := by decide +kernel
theorem dX9_enter_39 : decode cX9_enter 39 = .ok (.baload, 1) := by decide +kernel
theorem dX9_enter_40 : decode cX9_enter 40 = .ok (.ifCond .eq 6, 3) := by decide +kernel
theorem dX9_enter_43 : decode cX9_enter 43 = .ok (.bipush (-3), 2) := by decide +kernel
theorem dX9_enter_45 : decode cX9_enter 45 = .ok (.ireturn, 1) := by decide +kernel
theorem dX9_enter_46 : decode cX9_enter 46 = .ok (.aload_n 0, 1) := by decide +kernel
theorem dX9_enter_47 : decode cX9_enter 47 = .ok (.getfield 19, 3) := by decide +kernel
theorem dX9_enter_50 : decode cX9_enter 50 = .ok (.iload_n 1, 1) := by decide +kernel
theorem dX9_enter_51 : decode cX9_enter 51 = .ok (.iaload, 1) := by decide +kernel
theorem dX9_enter_52 : decode cX9_enter 52 = .ok (.aload_n 0, 1) := by decide +kernel
theorem dX9_enter_53 : decode cX9_enter 53 = .ok (.getfield 13, 3) := by decide +kernel
theorem dX9_enter_56 : decode cX9_enter 56 = .ok (.iload_n 1, 1) := by decide +kernel
theorem dX9_enter_57 : decode cX9_enter 57 = .ok (.iaload, 1) := by decide +kernel
theorem dX9_enter_58 : decode cX9_enter 58 = .ok (.if_icmp .ne 6, 3) := by decide +kernel
theorem dX9_enter_61 : decode cX9_enter 61 = .ok (.bipush (-2), 2) := by decide +kernel
theorem dX9_enter_63 : decode cX9_enter 63 = .ok (.ireturn, 1) := by decide +kernel
theorem dX9_enter_64 : decode cX9_enter 64 = .ok (.aload_n 0, 1) := by decide +kernel
theorem dX9_enter_65 : decode cX9_enter 65 = .ok (.getfield 35, 3) := by decide +kernel
theorem dX9_enter_68 : decode cX9_enter 68 = .ok (.bipush 40, 2) := by decide +kernel
theorem dX9_enter_70 : decode cX9_enter 70 = .ok (.iload_n 1, 1) := by decide +kernel
theorem dX9_enter_71 : decode cX9_enter 71 = .ok (.imul, 1) := by decide +kernel
theorem dX9_enter_72 : decode cX9_enter 72 = .ok (.iload_n 2, 1) := by decide +kernel
theorem dX9_enter_73 : decode cX9_enter 73 = .ok (.iadd, 1) := by decide +kernel
theorem dX9_enter_74 : decode cX9_enter 74 = .ok (.iconst 1, 1) := by decide +kernel
theorem dX9_enter_75 : decode cX9_enter 75 = .ok (.bastore, 1) := by decide +kernel
theorem dX9_enter_76 : decode cX9_enter 76 = .ok (.aload_n 0, 1) := by decide +kernel
theorem dX9_enter_77 : decode cX9_enter 77 = .ok (.getfield 22, 3) := by decide +kernel
theorem dX9_enter_80 : decode cX9_enter 80 = .ok (.bipush 16, 2) := by decide +kernel
theorem dX9_enter_82 : decode cX9_enter 82 = .ok (.iload_n 1, 1) := by decide +kernel
theorem dX9_enter_83 : decode cX9_enter 83 = .ok (.imul, 1) := by decide +kernel
theorem dX9_enter_84 : decode cX9_enter 84 = .ok (.aload_n 0, 1) := by decide +kernel
theorem dX9_enter_85 : decode cX9_enter 85 = .ok (.getfield 19, 3) := by decide +kernel
theorem dX9_enter_88 : decode cX9_enter 88 = .ok (.iload_n 1, 1) := by decide +kernel
theorem dX9_enter_89 : decode cX9_enter 89 = .ok (.iaload, 1) := by decide +kernel
theorem dX9_enter_90 : decode cX9_enter 90 = .ok (.iadd, 1) := by decide +kernel
theorem dX9_enter_91 : decode cX9_enter 91 = .ok (.iload_n 2, 1) := by decide +kernel
theorem dX9_enter_92 : decode cX9_enter 92 = .ok (.iastore, 1) := by decide +kernel
theorem dX9_enter_93 : decode cX9_enter 93 = .ok (.aload_n 0, 1) := by decide +kernel
theorem dX9_enter_94 : decode cX9_enter 94 = .ok (.getfield 19, 3) := by decide +kernel
theorem dX9_enter_97 : decode cX9_enter 97 = .ok (.iload_n 1, 1) := by decide +kernel
theorem dX9_enter_98 : decode cX9_enter 98 = .ok (.dup2, 1) := by decide +kernel
theorem dX9_enter_99 : decode cX9_enter 99 = .ok (.iaload, 1) := by decide +kernel
theorem dX9_enter_100 : decode cX9_enter 100 = .ok (.iconst 1, 1) := by decide +kernel
theorem dX9_enter_101 : decode cX9_enter 101 = .ok (.iadd, 1) := by decide +kernel
theorem dX9_enter_102 : decode cX9_enter 102 = .ok (.iastore, 1) := by decide +kernel
theorem dX9_enter_103 : decode cX9_enter 103 = .ok (.aload_n 0, 1) := by decide +kernel
theorem dX9_enter_104 : decode cX9_enter 104 = .ok (.getfield 19, 3) := by decide +kernel
theorem dX9_enter_107 : decode cX9_enter 107 = .ok (.iload_n 1, 1) := by decide +kernel
theorem dX9_enter_108 : decode cX9_enter 108 = .ok (.iaload, 1) := by decide +kernel
theorem dX9_enter_109 : decode cX9_enter 109 = .ok (.ireturn, 1) := by decide +kernel
theorem dX9_seeds_0 : decode cX9_seeds 0 = .ok (.aload_n 0, 1) := by decide +kernel
theorem dX9_seeds_1 : decode cX9_seeds 1 = .ok (.iload_n 1, 1) := by decide +kernel
theorem dX9_seeds_2 : decode cX9_seeds 2 = .ok (.invokevirtual 123, 3) := by decide +kernel
theorem dX9_seeds_5 : decode cX9_seeds 5 = .ok (.ifCond .eq 12, 3) := by decide +kernel
theorem dX9_seeds_8 : decode cX9_seeds 8 = .ok (.iload_n 2, 1) := by decide +kernel
theorem dX9_seeds_9 : decode cX9_seeds 9 = .ok (.iconst 0, 1) := by decide +kernel
theorem dX9_seeds_10 : decode cX9_seeds 10 = .ok (.iconst 4, 1) := by decide +kernel
theorem dX9_seeds_11 : decode cX9_seeds 11 = .ok (.invokestatic 111, 3) := by decide +kernel
theorem dX9_seeds_14 : decode cX9_seeds 14 = .ok (.ifCond .ne 5, 3) := by decide +kernel
theorem dX9_seeds_17 : decode cX9_seeds 17 = .ok (.iconst (-1), 1) := by decide +kernel
theorem dX9_seeds_18 : decode cX9_seeds 18 = .ok (.ireturn, 1) := by decide +kernel
theorem dX9_seeds_19 : decode cX9_seeds 19 = .ok (.aload_n 0, 1) := by decide +kernel
theorem dX9_seeds_20 : decode cX9_seeds 20 = .ok (.getfield 28, 3) := by decide +kernel
theorem dX9_seeds_23 : decode cX9_seeds 23 = .ok (.iload_n 1, 1) := by decide +kernel
theorem dX9_seeds_24 : decode cX9_seeds 24 = .ok (.baload, 1) := by decide +kernel
theorem dX9_seeds_25 : decode cX9_seeds 25 = .ok (.ifCond .eq 6, 3) := by decide +kernel
theorem dX9_seeds_28 : decode cX9_seeds 28 = .ok (.bipush (-4), 2) := by decide +kernel
theorem dX9_seeds_30 : decode cX9_seeds 30 = .ok (.ireturn, 1) := by decide +kernel
theorem dX9_seeds_31 : decode cX9_seeds 31 = .ok (.aload_n 0, 1) := by decide +kernel
theorem dX9_seeds_32 : decode cX9_seeds 32 = .ok (.getfield 25, 3) := by decide +kernel
theorem dX9_seeds_35 : decode cX9_seeds 35 = .ok (.iload_n 1, 1) := by decide +kernel
theorem dX9_seeds_36 : decode cX9_seeds 36 = .ok (.iload_n 2, 1) := by decide +kernel
