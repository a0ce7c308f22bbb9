theorem dX9_meeting_28 : decode cX9_meeting 28 = .ok (.ifCond .eq 8, 3) := by decide +kernel
theorem dX9_meeting_31 : decode cX9_meeting 31 = .ok (.iload_n 2, 1) := by decide +kernel
theorem dX9_meeting_32 : decode cX9_meeting 32 = .ok (.iload_n 3, 1) := by decide +kernel
theorem dX9_meeting_33 : decode cX9_meeting 33 = .ok (.if_icmp .ne 5, 3) := by decide +kernel
theorem dX9_meeting_36 : decode cX9_meeting 36 = .ok (.iconst (-1), 1) := by decide +kernel
theorem dX9_meeting_37 : decode cX9_meeting 37 = .ok (.ireturn, 1) := by decide +kernel
theorem dX9_meeting_38 : decode cX9_meeting 38 = .ok (.aload_n 0, 1) := by decide +kernel
theorem dX9_meeting_39 : decode cX9_meeting 39 = .ok (.iload_n 1, 1) := by decide +kernel
theorem dX9_meeting_40 : decode cX9_meeting 40 = .ok (.iload_n 2, 1) := by decide +kernel
theorem dX9_meeting_41 : decode cX9_meeting 41 = .ok (.invokevirtual 170, 3) := by decide +kernel
theorem dX9_meeting_44 : decode cX9_meeting 44 = .ok (.istore 4, 2) := by decide +kernel
theorem dX9_meeting_46 : decode cX9_meeting 46 = .ok (.aload_n 0, 1) := by decide +kernel
theorem dX9_meeting_47 : decode cX9_meeting 47 = .ok (.iload_n 1, 1) := by decide +kernel
theorem dX9_meeting_48 : decode cX9_meeting 48 = .ok (.iload_n 3, 1) := by decide +kernel
theorem dX9_meeting_49 : decode cX9_meeting 49 = .ok (.invokevirtual 170, 3) := by decide +kernel
theorem dX9_meeting_52 : decode cX9_meeting 52 = .ok (.istore 5, 2) := by decide +kernel
theorem dX9_meeting_54 : decode cX9_meeting 54 = .ok (.iload 4, 2) := by decide +kernel
theorem dX9_meeting_56 : decode cX9_meeting 56 = .ok (.ifCond .lt 8, 3) := by decide +kernel
theorem dX9_meeting_59 : decode cX9_meeting 59 = .ok (.iload 5, 2) := by decide +kernel
theorem dX9_meeting_61 : decode cX9_meeting 61 = .ok (.ifCond .ge 5, 3) := by decide +kernel
theorem dX9_meeting_64 : decode cX9_meeting 64 = .ok (.iconst (-1), 1) := by decide +kernel
theorem dX9_meeting_65 : decode cX9_meeting 65 = .ok (.ireturn, 1) := by decide +kernel
theorem dX9_meeting_66 : decode cX9_meeting 66 = .ok (.iconst 0, 1) := by decide +kernel
theorem dX9_meeting_67 : decode cX9_meeting 67 = .ok (.istore 6, 2) := by decide +kernel
theorem dX9_meeting_69 : decode cX9_meeting 69 = .ok (.iload 4, 2) := by decide +kernel
theorem dX9_meeting_71 : decode cX9_meeting 71 = .ok (.iload 6, 2) := by decide +kernel
theorem dX9_meeting_73 : decode cX9_meeting 73 = .ok (.iconst 1, 1) := by decide +kernel
theorem dX9_meeting_74 : decode cX9_meeting 74 = .ok (.iadd, 1) := by decide +kernel
theorem dX9_meeting_75 : decode cX9_meeting 75 = .ok (.ishr, 1) := by decide +kernel
theorem dX9_meeting_76 : decode cX9_meeting 76 = .ok (.iload 5, 2) := by decide +kernel
theorem dX9_meeting_78 : decode cX9_meeting 78 = .ok (.iload 6, 2) := by decide +kernel
theorem dX9_meeting_80 : decode cX9_meeting 80 = .ok (.iconst 1, 1) := by decide +kernel
theorem dX9_meeting_81 : decode cX9_meeting 81 = .ok (.iadd, 1) := by decide +kernel
theorem dX9_meeting_82 : decode cX9_meeting 82 = .ok (.ishr, 1) := by decide +kernel
theorem dX9_meeting_83 : decode cX9_meeting 83 = .ok (.if_icmp .eq 9, 3) := by decide +kernel
theorem dX9_meeting_86 : decode cX9_meeting 86 = .ok (.iinc 6 1, 3) := by decide +kernel
theorem dX9_meeting_89 : decode cX9_meeting 89 = .ok (.goto (-20), 3) := by decide +kernel
theorem dX9_meeting_92 : decode cX9_meeting 92 = .ok (.aload_n 0, 1) := by decide +kernel
theorem dX9_meeting_93 : decode cX9_meeting 93 = .ok (.iload_n 1, 1) := by decide +kernel
theorem dX9_meeting_94 : decode cX9_meeting 94 = .ok (.iload_n 2, 1) := by decide +kernel
theorem dX9_meeting_95 : decode cX9_meeting 95 = .ok (.iload 6, 2) := by decide +kernel
theorem dX9_meeting_97 : decode cX9_meeting 97 = .ok (.invokevirtual 230, 3) := by decide +kernel
theorem dX9_meeting_100 : decode cX9_meeting 100 = .ok (.ifCond .ne 14, 3) := by decide +kernel
theorem dX9_meeting_103 : decode cX9_meeting 103 = .ok (.aload_n 0, 1) := by decide +kernel
theorem dX9_meeting_104 : decode cX9_meeting 104 = .ok (.iload_n 1, 1) := by decide +kernel
theorem dX9_meeting_105 : decode cX9_meeting 105 = .ok (.iload_n 3, 1) := by decide +kernel
theorem dX9_meeting_106 : decode cX9_meeting 106 = .ok (.iload 6, 2) := by decide +kernel
theorem dX9_meeting_108 : decode cX9_meeting 108 = .ok (.invokevirtual 230, 3) := by decide +kernel
theorem dX9_meeting_111 : decode cX9_meeting 111 = .ok (.ifCond .eq 7, 3) := by decide +kernel
theorem dX9_meeting_114 : decode cX9_meeting 114 = .ok (.iconst (-1), 1) := by decide +kernel
theorem dX9_meeting_115 : decode cX9_meeting 115 = .ok (.goto 5, 3) := by decide +kernel
theorem dX9_meeting_118 : decode cX9_meeting 118 = .ok (.iload 6, 2) := by decide +kernel
theorem dX9_meeting_120 : decode cX9_meeting 120 = .ok (.ireturn, 1) := by decide +kernel
theorem dX9_isCourt_0 : decode cX9_isCourt 0 = .ok (.iload_n 0, 1) := by decide +kernel
theorem dX9_isCourt_1 : decode cX9_isCourt 1 = .ok (.iconst 0, 1) := by decide +kernel
theorem dX9_isCourt_2 : decode cX9_isCourt 2 = .ok (.iconst 5, 1) := by decide +kernel
theorem dX9_isCourt_3 : decode cX9_isCourt 3 = .ok (.invokestatic 111, 3) := by decide +kernel
theorem dX9_isCourt_6 : decode cX9_isCourt 6 = .ok (.ireturn, 1) := by decide +kernel
theorem dX9_isMinute_0 : decode cX9_isMinute 0 = .ok (.iload_n 0, 1) := by decide +kernel
theorem dX9_isMinute_1 : decode cX9_isMinute 1 = .ok (.iconst 0, 1) := by decide +kernel
theorem dX9_isMinute_2 : decode cX9_isMinute 2 = .ok (.ldc 233, 2) := by decide +kernel
theorem dX9_isMinute_4 : decode cX9_isMinute 4 = .ok (.invokestatic 111, 3) := by decide +kernel
theorem dX9_isMinute_7 : decode cX9_isMinute 7 = .ok (.ireturn, 1) := by decide +kernel
theorem dX9_court_0 : decode cX9_court 0 = .ok (.iload_n 1, 1) := by decide +kernel
theorem dX9_court_1 : decode cX9_court 1 = .ok (.invokestatic 234, 3) := by decide +kernel
theorem dX9_court_4 : decode cX9_court 4 = .ok (.ifCond .eq 22, 3) := by decide +kernel
theorem dX9_court_7 : decode cX9_court 7 = .ok (.iload 4, 2) := by decide +kernel
theorem dX9_court_9 : decode cX9_court 9 = .ok (.iconst 0, 1) := by decide +kernel
theorem dX9_court_10 : decode cX9_court 10 = .ok (.bipush 99, 2) := by decide +kernel
theorem dX9_court_12 : decode cX9_court 12 = .ok (.invokestatic 111, 3) := by decide +kernel
theorem dX9_court_15 : decode cX9_court 15 = .ok (.ifCond .eq 11, 3) := by decide +kernel
theorem dX9_court_18 : decode cX9_court 18 = .ok (.iload 5, 2) := by decide +kernel
theorem dX9_court_20 : decode cX9_court 20 = .ok (.invokestatic 237, 3) := by decide +kernel
theorem dX9_court_23 : decode cX9_court 23 = .ok (.ifCond .ne 5, 3) := by decide +kernel
theorem dX9_court_26 : decode cX9_court 26 = .ok (.iconst (-1), 1) := by decide +kernel
theorem dX9_court_27 : decode cX9_court 27 = .ok (.ireturn, 1) := by decide +kernel
theorem dX9_court_28 : decode cX9_court 28 = .ok (.aload_n 0, 1) := by decide +kernel
theorem dX9_court_29 : decode cX9_court 29 = .ok (.getfield 57, 3) := by decide +kernel
theorem dX9_court_32 : decode cX9_court 32 = .ok (.iload_n 1, 1) := by decide +kernel
theorem dX9_court_33 : decode cX9_court 33 = .ok (.iload_n 2, 1) := by decide +kernel
theorem dX9_court_34 : decode cX9_court 34 = .ok (.bastore, 1) := by decide +kernel
theorem dX9_court_35 : decode cX9_court 35 = .ok (.aload_n 0, 1) := by decide +kernel
theorem dX9_court_36 : decode cX9_court 36 = .ok (.getfield 60, 3) := by decide +kernel
theorem dX9_court_39 : decode cX9_court 39 = .ok (.iload_n 1, 1) := by decide +kernel
theorem dX9_court_40 : decode cX9_court 40 = .ok (.iload_n 3, 1) := by decide +kernel
theorem dX9_court_41 : decode cX9_court 41 = .ok (.bastore, 1) := by decide +kernel
theorem dX9_court_42 : decode cX9_court 42 = .ok (.aload_n 0, 1) := by decide +kernel
theorem dX9_court_43 : decode cX9_court 43 = .ok (.getfield 63, 3) := by decide +kernel
theorem dX9_court_46 : decode cX9_court 46 = .ok (.iload_n 1, 1) := by decide +kernel
theorem dX9_court_47 : decode cX9_court 47 = .ok (.iload 4, 2) := by decide +kernel
theorem dX9_court_49 : decode cX9_court 49 = .ok (.iastore, 1) := by decide +kernel
theorem dX9_court_50 : decode cX9_court 50 = .ok (.aload_n 0, 1) := by decide +kernel
theorem dX9_court_51 : decode cX9_court 51 = .ok (.getfield 66, 3) := by decide +kernel
theorem dX9_court_54 : decode cX9_court 54 = .ok (.iload_n 1, 1) := by decide +kernel
theorem dX9_court_55 : decode cX9_court 55 = .ok (.iload 5, 2) := by decide +kernel
theorem dX9_court_57 : decode cX9_court 57 = .ok (.iastore, 1) := by decide +kernel
theorem dX9_court_58 : decode cX9_court 58 = .ok (.iconst 1, 1) := by decide +kernel
theorem dX9_court_59 : decode cX9_court 59 = .ok (.ireturn, 1) := by decide +kernel
theorem dX9_rule_0 : decode cX9_rule 0 = .ok (.iload_n 1, 1) := by decide +kernel
theorem dX9_rule_1 : decode cX9_rule 1 = .ok (.iconst 0, 1) := by decide +kernel
theorem dX9_rule_2 : decode cX9_rule 2 = .ok (.iconst 3, 1) := by decide +kernel
theorem dX9_rule_3 : decode cX9_rule 3 = .ok (.invokestatic 111, 3) := by decide +kernel
theorem dX9_rule_6 : decode cX9_rule 6 = .ok (.ifCond .eq 29, 3) := by decide +kernel
theorem dX9_rule_9 : decode cX9_rule 9 = .ok (.iload_n 1, 1) := by decide +kernel
theorem dX9_rule_10 : decode cX9_rule 10 = .ok (.iconst 3, 1) := by decide +kernel
theorem dX9_rule_11 : decode cX9_rule 11 = .ok (.if_icmp .ne 13, 3) := by decide +kernel
theorem dX9_rule_14 : decode cX9_rule 14 = .ok (.iload_n 2, 1) := by decide +kernel
theorem dX9_rule_15 : decode cX9_rule 15 = .ok (.invokestatic 237, 3) := by decide +kernel
theorem dX9_rule_18 : decode cX9_rule 18 = .ok (.ifCond .ne 19, 3) := by decide +kernel
theorem dX9_rule_21 : decode cX9_rule 21 = .ok (.goto 14, 3) := by decide +kernel
theorem dX9_rule_24 : decode cX9_rule 24 = .ok (.iload_n 2, 1) := by decide +kernel
theorem dX9_rule_25 : decode cX9_rule 25 = .ok (.iconst 0, 1) := by decide +kernel
theorem dX9_rule_26 : decode cX9_rule 26 = .ok (.sipush 2000, 3) := by decide +kernel
theorem dX9_rule_29 : decode cX9_rule 29 = .ok (.invokestatic 111, 3) := by decide +kernel
theorem dX9_rule_32 : decode cX9_rule 32 = .ok (.ifCond .ne 5, 3) := by decide +kernel
theorem dX9_rule_35 : decode cX9_rule 35 = .ok (.iconst (-1), 1) := by decide +kernel
theorem dX9_rule_36 : decode cX9_rule 36 = .ok (.ireturn, 1) := by decide +kernel
theorem dX9_rule_37 : decode cX9_rule 37 = .ok (.aload_n 0, 1) := by decide +kernel
theorem dX9_rule_38 : decode cX9_rule 38 = .ok (.getfield 75, 3) := by decide +kernel
theorem dX9_rule_41 : decode cX9_rule 41 = .ok (.iload_n 1, 1) := by decide +kernel
theorem dX9_rule_42 : decode cX9_rule 42 = .ok (.iaload, 1) := by decide +kernel
theorem dX9_rule_43 : decode cX9_rule 43 = .ok (.istore_n 3, 1) := by decide +kernel
theorem dX9_rule_44 : decode cX9_rule 44 = .ok (.aload_n 0, 1) := by decide +kernel
theorem dX9_rule_45 : decode cX9_rule 45 = .ok (.getfield 75, 3) := by decide +kernel
theorem dX9_rule_48 : decode cX9_rule 48 = .ok (.iload_n 1, 1) := by decide +kernel
theorem dX9_rule_49 : decode cX9_rule 49 = .ok (.iload_n 2, 1) := by decide +kernel
theorem dX9_rule_50 : decode cX9_rule 50 = .ok (.iastore, 1) := by decide +kernel
theorem dX9_rule_51 : decode cX9_rule 51 = .ok (.iload_n 3, 1) := by decide +kernel
theorem dX9_rule_52 : decode cX9_rule 52 = .ok (.ireturn, 1) := by decide +kernel
theorem dX9_rain_0 : decode cX9_rain 0 = .ok (.aload_n 0, 1) := by decide +kernel
theorem dX9_rain_1 : decode cX9_rain 1 = .ok (.getfield 240, 3) := by decide +kernel
theorem dX9_rain_4 : decode cX9_rain 4 = .ok (.iload_n 1, 1) := by decide +kernel
theorem dX9_rain_5 : decode cX9_rain 5 = .ok (.if_icmp .eq 7, 3) := by decide +kernel
theorem dX9_rain_8 : decode cX9_rain 8 = .ok (.iconst 1, 1) := by decide +kernel
theorem dX9_rain_9 : decode cX9_rain 9 = .ok (.goto 4, 3) := by decide +kernel
theorem dX9_rain_12 : decode cX9_rain 12 = .ok (.iconst 0, 1) := by decide +kernel
theorem dX9_rain_13 : decode cX9_rain 13 = .ok (.istore_n 2, 1) := by decide +kernel
theorem dX9_rain_14 : decode cX9_rain 14 = .ok (.aload_n 0, 1) := by decide +kernel
theorem dX9_rain_15 : decode cX9_rain 15 = .ok (.iload_n 1, 1) := by decide +kernel
theorem dX9_rain_16 : decode cX9_rain 16 = .ok (.putfield 240, 3) := by decide +kernel
theorem dX9_rain_19 : decode cX9_rain 19 = .ok (.iload_n 2, 1) := by decide +kernel
theorem dX9_rain_20 : decode cX9_rain 20 = .ok (.ireturn, 1) := by decide +kernel
theorem dX9_isAnyMatch_0 : decode cX9_isAnyMatch 0 = .ok (.iload_n 0, 1) := by decide +kernel
theorem dX9_isAnyMatch_1 : decode cX9_isAnyMatch 1 = .ok (.iconst 0, 1) := by decide +kernel
theorem dX9_isAnyMatch_2 : decode cX9_isAnyMatch 2 = .ok (.bipush 63, 2) := by decide +kernel
theorem dX9_isAnyMatch_4 : decode cX9_isAnyMatch 4 = .ok (.invokestatic 111, 3) := by decide +kernel
theorem dX9_isAnyMatch_7 : decode cX9_isAnyMatch 7 = .ok (.ifCond .eq 16, 3) := by decide +kernel
theorem dX9_isAnyMatch_10 : decode cX9_isAnyMatch 10 = .ok (.iload_n 0, 1) := by decide +kernel
theorem dX9_isAnyMatch_11 : decode cX9_isAnyMatch 11 = .ok (.bipush 16, 2) := by decide +kernel
theorem dX9_isAnyMatch_13 : decode cX9_isAnyMatch 13 = .ok (.irem, 1) := by decide +kernel
theorem dX9_isAnyMatch_14 : decode cX9_isAnyMatch 14 = .ok (.bipush 15, 2) := by decide +kernel
theorem dX9_isAnyMatch_16 : decode cX9_isAnyMatch 16 = .ok (.if_icmp .ge 7, 3) := by decide +kernel
theorem dX9_isAnyMatch_19 : decode cX9_isAnyMatch 19 = .ok (.iconst 1, 1) := by decide +kernel
theorem dX9_isAnyMatch_20 : decode cX9_isAnyMatch 20 = .ok (.goto 4, 3) := by decide +kernel
theorem dX9_isAnyMatch_23 : decode cX9_isAnyMatch 23 = .ok (.iconst 0, 1) := by decide +kernel
theorem dX9_isAnyMatch_24 : decode cX9_isAnyMatch 24 = .ok (.ireturn, 1) := by decide +kernel
theorem dX9_come_0 : decode cX9_come 0 = .ok (.aload_n 0, 1) := by decide +kernel
theorem dX9_come_1 : decode cX9_come 1 = .ok (.getfield 69, 3) := by decide +kernel
theorem dX9_come_4 : decode cX9_come 4 = .ok (.iload_n 1, 1) := by decide +kernel
theorem dX9_come_5 : decode cX9_come 5 = .ok (.iaload, 1) := by decide +kernel
theorem dX9_come_6 : decode cX9_come 6 = .ok (.bipush 6, 2) := by decide +kernel
theorem dX9_come_8 : decode cX9_come 8 = .ok (.if_icmp .ne 6, 3) := by decide +kernel
theorem dX9_come_11 : decode cX9_come 11 = .ok (.bipush (-2), 2) := by decide +kernel
theorem dX9_come_13 : decode cX9_come 13 = .ok (.ireturn, 1) := by decide +kernel
theorem dX9_come_14 : decode cX9_come 14 = .ok (.aload_n 0, 1) := by decide +kernel
theorem dX9_come_15 : decode cX9_come 15 = .ok (.getfield 72, 3) := by decide +kernel
theorem dX9_come_18 : decode cX9_come 18 = .ok (.bipush 6, 2) := by decide +kernel
theorem dX9_come_20 : decode cX9_come 20 = .ok (.iload_n 1, 1) := by decide +kernel
theorem dX9_come_21 : decode cX9_come 21 = .ok (.imul, 1) := by decide +kernel
theorem dX9_come_22 : decode cX9_come 22 = .ok (.aload_n 0, 1) := by decide +kernel
theorem dX9_come_23 : decode cX9_come 23 = .ok (.getfield 69, 3) := by decide +kernel
theorem dX9_come_26 : decode cX9_come 26 = .ok (.iload_n 1, 1) := by decide +kernel
theorem dX9_come_27 : decode cX9_come 27 = .ok (.iaload, 1) := by decide +kernel
theorem dX9_come_28 : decode cX9_come 28 = .ok (.iadd, 1) := by decide +kernel
theorem dX9_come_29 : decode cX9_come 29 = .ok (.iload_n 2, 1) := by decide +kernel
theorem dX9_come_30 : decode cX9_come 30 = .ok (.iastore, 1) := by decide +kernel
theorem dX9_come_31 : decode cX9_come 31 = .ok (.aload_n 0, 1) := by decide +kernel
theorem dX9_come_32 : decode cX9_come 32 = .ok (.getfield 69, 3) := by decide +kernel
theorem dX9_come_35 : decode cX9_come 35 = .ok (.iload_n 1, 1) := by decide +kernel
theorem dX9_come_36 : decode cX9_come 36 = .ok (.dup2, 1) := by decide +kernel
theorem dX9_come_37 : decode cX9_come 37 = .ok (.iaload, 1) := by decide +kernel
theorem dX9_come_38 : decode cX9_come 38 = .ok (.iconst 1, 1) := by decide +kernel
theorem dX9_come_39 : decode cX9_come 39 = .ok (.iadd, 1) := by decide +kernel
theorem dX9_come_40 : decode cX9_come 40 = .ok (.iastore, 1) := by decide +kernel
theorem dX9_come_41 : decode cX9_come 41 = .ok (.aload_n 0, 1) := by decide +kernel
theorem dX9_come_42 : decode cX9_come 42 = .ok (.getfield 69, 3) := by decide +kernel
theorem dX9_come_45 : decode cX9_come 45 = .ok (.iload_n 1, 1) := by decide +kernel
theorem dX9_come_46 : decode cX9_come 46 = .ok (.iaload, 1) := by decide +kernel
theorem dX9_come_47 : decode cX9_come 47 = .ok (.iconst 1, 1) := by decide +kernel
theorem dX9_come_48 : decode cX9_come 48 = .ok (.isub, 1) := by decide +kernel
theorem dX9_come_49 : decode cX9_come 49 = .ok (.ireturn, 1) := by decide +kernel
theorem dX9_slot_0 : decode cX9_slot 0 = .ok (.iload_n 1, 1) := by decide +kernel
theorem dX9_slot_1 : decode cX9_slot 1 = .ok (.invokestatic 234, 3) := by decide +kernel
theorem dX9_slot_4 : decode cX9_slot 4 = .ok (.ifCond .eq 19, 3) := by decide +kernel
theorem dX9_slot_7 : decode cX9_slot 7 = .ok (.iload_n 2, 1) := by decide +kernel
theorem dX9_slot_8 : decode cX9_slot 8 = .ok (.invokestatic 244, 3) := by decide +kernel
theorem dX9_slot_11 : decode cX9_slot 11 = .ok (.ifCond .eq 12, 3) := by decide +kernel
theorem dX9_slot_14 : decode cX9_slot 14 = .ok (.aload_n 0, 1) := by decide +kernel
theorem dX9_slot_15 : decode cX9_slot 15 = .ok (.iload_n 1, 1) := by decide +kernel
theorem dX9_slot_16 : decode cX9_slot 16 = .ok (.iload_n 2, 1) := by decide +kernel
theorem dX9_slot_17 : decode cX9_slot 17 = .ok (.invokevirtual 247, 3) := by decide +kernel
theorem dX9_slot_20 : decode cX9_slot 20 = .ok (.goto 4, 3) := by decide +kernel
theorem dX9_slot_23 : decode cX9_slot 23 = .ok (.iconst (-1), 1) := by decide +kernel
theorem dX9_slot_24 : decode cX9_slot 24 = .ok (.ireturn, 1) := by decide +kernel
theorem dX9_gap_0 : decode cX9_gap 0 = .ok (.iload_n 1, 1) := by decide +kernel
theorem dX9_gap_1 : decode cX9_gap 1 = .ok (.invokestatic 234, 3) := by decide +kernel
theorem dX9_gap_4 : decode cX9_gap 4 = .ok (.ifCond .eq 24, 3) := by decide +kernel
theorem dX9_gap_7 : decode cX9_gap 7 = .ok (.iload_n 2, 1) := by decide +kernel
theorem dX9_gap_8 : decode cX9_gap 8 = .ok (.iconst 1, 1) := by decide +kernel
theorem dX9_gap_9 : decode cX9_gap 9 = .ok (.sipush 1000, 3) := by decide +kernel
theorem dX9_gap_12 : decode cX9_gap 12 = .ok (.invokestatic 111, 3) := by decide +kernel
theorem dX9_gap_15 : decode cX9_gap 15 = .ok (.ifCond .eq 13, 3) := by decide +kernel
theorem dX9_gap_18 : decode cX9_gap 18 = .ok (.aload_n 0, 1) := by decide +kernel
theorem dX9_gap_19 : decode cX9_gap 19 = .ok (.iload_n 1, 1) := by decide +kernel
theorem dX9_gap_20 : decode cX9_gap 20 = .ok (.iload_n 2, 1) := by decide +kernel
theorem dX9_gap_21 : decode cX9_gap 21 = .ok (.ineg, 1) := by decide +kernel
theorem dX9_gap_22 : decode cX9_gap 22 = .ok (.invokevirtual 247, 3) := by decide +kernel
theorem dX9_gap_25 : decode cX9_gap 25 = .ok (.goto 4, 3) := by decide +kernel
theorem dX9_gap_28 : decode cX9_gap 28 = .ok (.iconst (-1), 1) := by decide +kernel
theorem dX9_gap_29 : decode cX9_gap 29 = .ok (.ireturn, 1) := by decide +kernel
theorem dX9_isSlot_0 : decode cX9_isSlot 0 = .ok (.iload_n 1, 1) := by decide +kernel
theorem dX9_isSlot_1 : decode cX9_isSlot 1 = .ok (.invokestatic 234, 3) := by decide +kernel
theorem dX9_isSlot_4 : decode cX9_isSlot 4 = .ok (.ifCond .eq 23, 3) := by decide +kernel
theorem dX9_isSlot_7 : decode cX9_isSlot 7 = .ok (.iload_n 2, 1) := by decide +kernel
theorem dX9_isSlot_8 : decode cX9_isSlot 8 = .ok (.iconst 0, 1) := by decide +kernel
theorem dX9_isSlot_9 : decode cX9_isSlot 9 = .ok (.aload_n 0, 1) := by decide +kernel
theorem dX9_isSlot_10 : decode cX9_isSlot 10 = .ok (.getfield 69, 3) := by decide +kernel
theorem dX9_isSlot_13 : decode cX9_isSlot 13 = .ok (.iload_n 1, 1) := by decide +kernel
theorem dX9_isSlot_14 : decode cX9_isSlot 14 = .ok (.iaload, 1) := by decide +kernel
theorem dX9_isSlot_15 : decode cX9_isSlot 15 = .ok (.iconst 1, 1) := by decide +kernel
theorem dX9_isSlot_16 : decode cX9_isSlot 16 = .ok (.isub, 1) := by decide +kernel
theorem dX9_isSlot_17 : decode cX9_isSlot 17 = .ok (.invokestatic 111, 3) := by decide +kernel
theorem dX9_isSlot_20 : decode cX9_isSlot 20 = .ok (.ifCond .eq 7, 3) := by decide +kernel
theorem dX9_isSlot_23 : decode cX9_isSlot 23 = .ok (.iconst 1, 1) := by decide +kernel
theorem dX9_isSlot_24 : decode cX9_isSlot 24 = .ok (.goto 4, 3) := by decide +kernel
theorem dX9_isSlot_27 : decode cX9_isSlot 27 = .ok (.iconst 0, 1) := by decide +kernel
theorem dX9_isSlot_28 : decode cX9_isSlot 28 = .ok (.ireturn, 1) := by decide +kernel
theorem dX9_drop_0 : decode cX9_drop 0 = .ok (.aload_n 0, 1) := by decide +kernel
theorem dX9_drop_1 : decode cX9_drop 1 = .ok (.iload_n 1, 1) := by decide +kernel
theorem dX9_drop_2 : decode cX9_drop 2 = .ok (.iload_n 2, 1) := by decide +kernel
theorem dX9_drop_3 : decode cX9_drop 3 = .ok (.invokevirtual 250, 3) := by decide +kernel
theorem dX9_drop_6 : decode cX9_drop 6 = .ok (.ifCond .ne 5, 3) := by decide +kernel
theorem dX9_drop_9 : decode cX9_drop 9 = .ok (.iconst (-1), 1) := by decide +kernel
theorem dX9_drop_10 : decode cX9_drop 10 = .ok (.ireturn, 1) := by decide +kernel
theorem dX9_drop_11 : decode cX9_drop 11 = .ok (.aload_n 0, 1) := by decide +kernel
theorem dX9_drop_12 : decode cX9_drop 12 = .ok (.getfield 69, 3) := by decide +kernel
theorem dX9_drop_15 : decode cX9_drop 15 = .ok (.iload_n 1, 1) := by decide +kernel
theorem dX9_drop_16 : decode cX9_drop 16 = .ok (.dup2, 1) := by decide +kernel
theorem dX9_drop_17 : decode cX9_drop 17 = .ok (.iaload, 1) := by decide +kernel
theorem dX9_drop_18 : decode cX9_drop 18 = .ok (.iconst 1, 1) := by decide +kernel
theorem dX9_drop_19 : decode cX9_drop 19 = .ok (.isub, 1) := by decide +kernel
theorem dX9_drop_20 : decode cX9_drop 20 = .ok (.iastore, 1) := by decide +kernel
theorem dX9_drop_21 : decode cX9_drop 21 = .ok (.iload_n 2, 1) := by decide +kernel
theorem dX9_drop_22 : decode cX9_drop 22 = .ok (.istore_n 3, 1) := by decide +kernel
theorem dX9_drop_23 : decode cX9_drop 23 = .ok (.iload_n 3, 1) := by decide +kernel
theorem dX9_drop_24 : decode cX9_drop 24 = .ok (.aload_n 0, 1) := by decide +kernel
theorem dX9_drop_25 : decode cX9_drop 25 = .ok (.getfield 69, 3) := by decide +kernel
theorem dX9_drop_28 : decode cX9_drop 28 = .ok (.iload_n 1, 1) := by decide +kernel
theorem dX9_drop_29 : decode cX9_drop 29 = .ok (.iaload, 1) := by decide +kernel
theorem dX9_drop_30 : decode cX9_drop 30 = .ok (.if_icmp .ge 33, 3) := by decide +kernel
theorem dX9_drop_33 : decode cX9_drop 33 = .ok (.aload_n 0, 1) := by decide +kernel
theorem dX9_drop_34 : decode cX9_drop 34 = .ok (.getfield 72, 3) := by decide +kernel
theorem dX9_drop_37 : decode cX9_drop 37 = .ok (.bipush 6, 2) := by decide +kernel
theorem dX9_drop_39 : decode cX9_drop 39 = .ok (.iload_n 1, 1) := by decide +kernel
theorem dX9_drop_40 : decode cX9_drop 40 = .ok (.imul, 1) := by decide +kernel
theorem dX9_drop_41 : decode cX9_drop 41 = .ok (.iload_n 3, 1) := by decide +kernel
theorem dX9_drop_42 : decode cX9_drop 42 = .ok (.iadd, 1) := by decide +kernel
theorem dX9_drop_43 : decode cX9_drop 43 = .ok (.aload_n 0, 1) := by decide +kernel
theorem dX9_drop_44 : decode cX9_drop 44 = .ok (.getfield 72, 3) := by decide +kernel
theorem dX9_drop_47 : decode cX9_drop 47 = .ok (.bipush 6, 2) := by decide +kernel
theorem dX9_drop_49 : decode cX9_drop 49 = .ok (.iload_n 1, 1) := by decide +kernel
theorem dX9_drop_50 : decode cX9_drop 50 = .ok (.imul, 1) := by decide +kernel
theorem dX9_drop_51 : decode cX9_drop 51 = .ok (.iload_n 3, 1) := by decide +kernel
theorem dX9_drop_52 : decode cX9_drop 52 = .ok (.iadd, 1) := by decide +kernel
theorem dX9_drop_53 : decode cX9_drop 53 = .ok (.iconst 1, 1) := by decide +kernel
theorem dX9_drop_54 : decode cX9_drop 54 = .ok (.iadd, 1) := by decide +kernel
theorem dX9_drop_55 : decode cX9_drop 55 = .ok (.iaload, 1) := by decide +kernel
theorem dX9_drop_56 : decode cX9_drop 56 = .ok (.iastore, 1) := by decide +kernel
theorem dX9_drop_57 : decode cX9_drop 57 = .ok (.iinc 3 1, 3) := by decide +kernel
theorem dX9_drop_60 : decode cX9_drop 60 = .ok (.goto (-37), 3) := by decide +kernel
theorem dX9_drop_63 : decode cX9_drop 63 = .ok (.aload_n 0, 1) := by decide +kernel
theorem dX9_drop_64 : decode cX9_drop 64 = .ok (.getfield 69, 3) := by decide +kernel
theorem dX9_drop_67 : decode cX9_drop 67 = .ok (.iload_n 1, 1) := by decide +kernel
theorem dX9_drop_68 : decode cX9_drop 68 = .ok (.iaload, 1) := by decide +kernel
theorem dX9_drop_69 : decode cX9_drop 69 = .ok (.ireturn, 1) := by decide +kernel
theorem dX9_held_0 : decode cX9_held 0 = .ok (.aload_n 0, 1) := by decide +kernel
theorem dX9_held_1 : decode cX9_held 1 = .ok (.iload_n 1, 1) := by decide +kernel
theorem dX9_held_2 : decode cX9_held 2 = .ok (.iload_n 2, 1) := by decide +kernel
theorem dX9_held_3 : decode cX9_held 3 = .ok (.invokevirtual 250, 3) := by decide +kernel
theorem dX9_held_6 : decode cX9_held 6 = .ok (.ifCond .eq 17, 3) := by decide +kernel
theorem dX9_held_9 : decode cX9_held 9 = .ok (.aload_n 0, 1) := by decide +kernel
theorem dX9_held_10 : decode cX9_held 10 = .ok (.getfield 72, 3) := by decide +kernel
theorem dX9_held_13 : decode cX9_held 13 = .ok (.bipush 6, 2) := by decide +kernel
theorem dX9_held_15 : decode cX9_held 15 = .ok (.iload_n 1, 1) := by decide +kernel
theorem dX9_held_16 : decode cX9_held 16 = .ok (.imul, 1) := by decide +kernel
theorem dX9_held_17 : decode cX9_held 17 = .ok (.iload_n 2, 1) := by decide +kernel
theorem dX9_held_18 : decode cX9_held 18 = .ok (.iadd, 1) := by decide +kernel
theorem dX9_held_19 : decode cX9_held 19 = .ok (.iaload, 1) := by decide +kernel
theorem dX9_held_20 : decode cX9_held 20 = .ok (.goto 6, 3) := by decide +kernel
theorem dX9_held_23 : decode cX9_held 23 = .ok (.sipush (-2000), 3) := by decide +kernel
theorem dX9_held_26 : decode cX9_held 26 = .ok (.ireturn, 1) := by decide +kernel
theorem dX9_lay__0 : decode cX9_lay_ 0 = .ok (.iconst 0, 1) := by decide +kernel
theorem dX9_lay__1 : decode cX9_lay_ 1 = .ok (.istore_n 1, 1) := by decide +kernel
theorem dX9_lay__2 : decode cX9_lay_ 2 = .ok (.iload_n 1, 1) := by decide +kernel
theorem dX9_lay__3 : decode cX9_lay_ 3 = .ok (.bipush 36, 2) := by decide +kernel
theorem dX9_lay__5 : decode cX9_lay_ 5 = .ok (.if_icmp .ge 16, 3) := by decide +kernel
theorem dX9_lay__8 : decode cX9_lay_ 8 = .ok (.aload_n 0, 1) := by decide +kernel
theorem dX9_lay__9 : decode cX9_lay_ 9 = .ok (.getfield 93, 3) := by decide +kernel
theorem dX9_lay__12 : decode cX9_lay_ 12 = .ok (.iload_n 1, 1) := by decide +kernel
theorem dX9_lay__13 : decode cX9_lay_ 13 = .ok (.iconst 0, 1) := by decide +kernel
theorem dX9_lay__14 : decode cX9_lay_ 14 = .ok (.bastore, 1) := by decide +kernel
theorem dX9_lay__15 : decode cX9_lay_ 15 = .ok (.iinc 1 1, 3) := by decide +kernel
theorem dX9_lay__18 : decode cX9_lay_ 18 = .ok (.goto (-16), 3) := by decide +kernel
theorem dX9_lay__21 : decode cX9_lay_ 21 = .ok (.iconst 0, 1) := by decide +kernel
theorem dX9_lay__22 : decode cX9_lay_ 22 = .ok (.istore_n 1, 1) := by decide +kernel
theorem dX9_lay__23 : decode cX9_lay_ 23 = .ok (.iload_n 1, 1) := by decide +kernel
theorem dX9_lay__24 : decode cX9_lay_ 24 = .ok (.bipush 6, 2) := by decide +kernel
theorem dX9_lay__26 : decode cX9_lay_ 26 = .ok (.if_icmp .ge 39, 3) := by decide +kernel
theorem dX9_lay__29 : decode cX9_lay_ 29 = .ok (.iconst 0, 1) := by decide +kernel
theorem dX9_lay__30 : decode cX9_lay_ 30 = .ok (.istore_n 2, 1) := by decide +kernel
theorem dX9_lay__31 : decode cX9_lay_ 31 = .ok (.iload_n 2, 1) := by decide +kernel
theorem dX9_lay__32 : decode cX9_lay_ 32 = .ok (.bipush 6, 2) := by decide +kernel
theorem dX9_lay__34 : decode cX9_lay_ 34 = .ok (.if_icmp .ge 25, 3) := by decide +kernel
theorem dX9_lay__37 : decode cX9_lay_ 37 = .ok (.iload_n 1, 1) := by decide +kernel
theorem dX9_lay__38 : decode cX9_lay_ 38 = .ok (.aload_n 0, 1) := by decide +kernel
theorem dX9_lay__39 : decode cX9_lay_ 39 = .ok (.getfield 69, 3) := by decide +kernel
theorem dX9_lay__42 : decode cX9_lay_ 42 = .ok (.iload_n 2, 1) := by decide +kernel
theorem dX9_lay__43 : decode cX9_lay_ 43 = .ok (.iaload, 1) := by decide +kernel
theorem dX9_lay__44 : decode cX9_lay_ 44 = .ok (.if_icmp .ge 9, 3) := by decide +kernel
theorem dX9_lay__47 : decode cX9_lay_ 47 = .ok (.aload_n 0, 1) := by decide +kernel
theorem dX9_lay__48 : decode cX9_lay_ 48 = .ok (.iload_n 2, 1) := by decide +kernel
theorem dX9_lay__49 : decode cX9_lay_ 49 = .ok (.iload_n 1, 1) := by decide +kernel
theorem dX9_lay__50 : decode cX9_lay_ 50 = .ok (.invokevirtual 253, 3) := by decide +kernel
theorem dX9_lay__53 : decode cX9_lay_ 53 = .ok (.iinc 2 1, 3) := by decide +kernel
theorem dX9_lay__56 : decode cX9_lay_ 56 = .ok (.goto (-25), 3) := by decide +kernel
theorem dX9_lay__59 : decode cX9_lay_ 59 = .ok (.iinc 1 1, 3) := by decide +kernel
theorem dX9_lay__62 : decode cX9_lay_ 62 = .ok (.goto (-39), 3) := by decide +kernel
theorem dX9_lay__65 : decode cX9_lay_ 65 = .ok (.return_, 1) := by decide +kernel
theorem dX9_isAhead_0 : decode cX9_isAhead 0 = .ok (.iload_n 1, 1) := by decide +kernel
theorem dX9_isAhead_1 : decode cX9_isAhead 1 = .ok (.iload_n 3, 1) := by decide +kernel
theorem dX9_isAhead_2 : decode cX9_isAhead 2 = .ok (.if_icmp .lt 13, 3) := by decide +kernel
theorem dX9_isAhead_5 : decode cX9_isAhead 5 = .ok (.iload_n 1, 1) := by decide +kernel
theorem dX9_isAhead_6 : decode cX9_isAhead 6 = .ok (.iload_n 3, 1) := by decide +kernel
theorem dX9_isAhead_7 : decode cX9_isAhead 7 = .ok (.if_icmp .ne 12, 3) := by decide +kernel
theorem dX9_isAhead_10 : decode cX9_isAhead 10 = .ok (.iload_n 0, 1) := by decide +kernel
theorem dX9_isAhead_11 : decode cX9_isAhead 11 = .ok (.iload_n 2, 1) := by decide +kernel
theorem dX9_isAhead_12 : decode cX9_isAhead 12 = .ok (.if_icmp .ge 7, 3) := by decide +kernel
theorem dX9_isAhead_15 : decode cX9_isAhead 15 = .ok (.iconst 1, 1) := by decide +kernel
theorem dX9_isAhead_16 : decode cX9_isAhead 16 = .ok (.goto 4, 3) := by decide +kernel
theorem dX9_isAhead_19 : decode cX9_isAhead 19 = .ok (.iconst 0, 1) := by decide +kernel
theorem dX9_isAhead_20 : decode cX9_isAhead 20 = .ok (.ireturn, 1) := by decide +kernel
theorem dX9_isAheadWith_0 : decode cX9_isAheadWith 0 = .ok (.iconst 0, 1) := by decide +kernel
theorem dX9_isAheadWith_1 : decode cX9_isAheadWith 1 = .ok (.istore 4, 2) := by decide +kernel
theorem dX9_isAheadWith_3 : decode cX9_isAheadWith 3 = .ok (.iconst 0, 1) := by decide +kernel
theorem dX9_isAheadWith_4 : decode cX9_isAheadWith 4 = .ok (.istore 5, 2) := by decide +kernel
theorem dX9_isAheadWith_6 : decode cX9_isAheadWith 6 = .ok (.iload 5, 2) := by decide +kernel
theorem dX9_isAheadWith_8 : decode cX9_isAheadWith 8 = .ok (.bipush 36, 2) := by decide +kernel
theorem dX9_isAheadWith_10 : decode cX9_isAheadWith 10 = .ok (.if_icmp .ge 60, 3) := by decide +kernel
theorem dX9_isAheadWith_13 : decode cX9_isAheadWith 13 = .ok (.iload 4, 2) := by decide +kernel
theorem dX9_isAheadWith_15 : decode cX9_isAheadWith 15 = .ok (.ifCond .ne 42, 3) := by decide +kernel
theorem dX9_isAheadWith_18 : decode cX9_isAheadWith 18 = .ok (.aload_n 0, 1) := by decide +kernel
theorem dX9_isAheadWith_19 : decode cX9_isAheadWith 19 = .ok (.getfield 93, 3) := by decide +kernel
theorem dX9_isAheadWith_22 : decode cX9_isAheadWith 22 = .ok (.iload 5, 2) := by decide +kernel
theorem dX9_isAheadWith_24 : decode cX9_isAheadWith 24 = .ok (.baload, 1) := by decide +kernel
theorem dX9_isAheadWith_25 : decode cX9_isAheadWith 25 = .ok (.ifCond .eq 36, 3) := by decide +kernel
theorem dX9_isAheadWith_28 : decode cX9_isAheadWith 28 = .ok (.iload 5, 2) := by decide +kernel
theorem dX9_isAheadWith_30 : decode cX9_isAheadWith 30 = .ok (.bipush 6, 2) := by decide +kernel
theorem dX9_isAheadWith_32 : decode cX9_isAheadWith 32 = .ok (.idiv, 1) := by decide +kernel
theorem dX9_isAheadWith_33 : decode cX9_isAheadWith 33 = .ok (.iload 5, 2) := by decide +kernel
theorem dX9_isAheadWith_35 : decode cX9_isAheadWith 35 = .ok (.bipush 6, 2) := by decide +kernel
theorem dX9_isAheadWith_37 : decode cX9_isAheadWith 37 = .ok (.irem, 1) := by decide +kernel
theorem dX9_isAheadWith_38 : decode cX9_isAheadWith 38 = .ok (.iload_n 2, 1) := by decide +kernel
theorem dX9_isAheadWith_39 : decode cX9_isAheadWith 39 = .ok (.iload_n 3, 1) := by decide +kernel
theorem dX9_isAheadWith_40 : decode cX9_isAheadWith 40 = .ok (.invokestatic 256, 3) := by decide +kernel
theorem dX9_isAheadWith_43 : decode cX9_isAheadWith 43 = .ok (.ifCond .eq 18, 3) := by decide +kernel
theorem dX9_isAheadWith_46 : decode cX9_isAheadWith 46 = .ok (.aload_n 0, 1) := by decide +kernel
theorem dX9_isAheadWith_47 : decode cX9_isAheadWith 47 = .ok (.getfield 72, 3) := by decide +kernel
theorem dX9_isAheadWith_50 : decode cX9_isAheadWith 50 = .ok (.iload 5, 2) := by decide +kernel
theorem dX9_isAheadWith_52 : decode cX9_isAheadWith 52 = .ok (.iaload, 1) := by decide +kernel
theorem dX9_isAheadWith_53 : decode cX9_isAheadWith 53 = .ok (.iload_n 1, 1) := by decide +kernel
theorem dX9_isAheadWith_54 : decode cX9_isAheadWith 54 = .ok (.if_icmp .ne 7, 3) := by decide +kernel
theorem dX9_isAheadWith_57 : decode cX9_isAheadWith 57 = .ok (.iconst 1, 1) := by decide +kernel
theorem dX9_isAheadWith_58 : decode cX9_isAheadWith 58 = .ok (.goto 4, 3) := by decide +kernel
theorem dX9_isAheadWith_61 : decode cX9_isAheadWith 61 = .ok (.iconst 0, 1) := by decide +kernel
theorem dX9_isAheadWith_62 : decode cX9_isAheadWith 62 = .ok (.istore 4, 2) := by decide +kernel
theorem dX9_isAheadWith_64 : decode cX9_isAheadWith 64 = .ok (.iinc 5 1, 3) := by decide +kernel
theorem dX9_isAheadWith_67 : decode cX9_isAheadWith 67 = .ok (.goto (-61), 3) := by decide +kernel
theorem dX9_isAheadWith_70 : decode cX9_isAheadWith 70 = .ok (.iload 4, 2) := by decide +kernel
theorem dX9_isAheadWith_72 : decode cX9_isAheadWith 72 = .ok (.ireturn, 1) := by decide +kernel
theorem dX9_laySlot_0 : decode cX9_laySlot 0 = .ok (.bipush 6, 2) := by decide +kernel
theorem dX9_laySlot_2 : decode cX9_laySlot 2 = .ok (.iload_n 1, 1) := by decide +kernel
theorem dX9_laySlot_3 : decode cX9_laySlot 3 = .ok (.imul, 1) := by decide +kernel
theorem dX9_laySlot_4 : decode cX9_laySlot 4 = .ok (.iload_n 2, 1) := by decide +kernel
theorem dX9_laySlot_5 : decode cX9_laySlot 5 = .ok (.iadd, 1) := by decide +kernel
theorem dX9_laySlot_6 : decode cX9_laySlot 6 = .ok (.istore_n 3, 1) := by decide +kernel
theorem dX9_laySlot_7 : decode cX9_laySlot 7 = .ok (.aload_n 0, 1) := by decide +kernel
theorem dX9_laySlot_8 : decode cX9_laySlot 8 = .ok (.getfield 72, 3) := by decide +kernel
theorem dX9_laySlot_11 : decode cX9_laySlot 11 = .ok (.iload_n 3, 1) := by decide +kernel
theorem dX9_laySlot_12 : decode cX9_laySlot 12 = .ok (.iaload, 1) := by decide +kernel
theorem dX9_laySlot_13 : decode cX9_laySlot 13 = .ok (.istore 4, 2) := by decide +kernel
theorem dX9_laySlot_15 : decode cX9_laySlot 15 = .ok (.aload_n 0, 1) := by decide +kernel
theorem dX9_laySlot_16 : decode cX9_laySlot 16 = .ok (.getfield 66, 3) := by decide +kernel
theorem dX9_laySlot_19 : decode cX9_laySlot 19 = .ok (.iload_n 1, 1) := by decide +kernel
theorem dX9_laySlot_20 : decode cX9_laySlot 20 = .ok (.iaload, 1) := by decide +kernel
theorem dX9_laySlot_21 : decode cX9_laySlot 21 = .ok (.istore 5, 2) := by decide +kernel
theorem dX9_laySlot_23 : decode cX9_laySlot 23 = .ok (.iconst 0, 1) := by decide +kernel
theorem dX9_laySlot_24 : decode cX9_laySlot 24 = .ok (.istore 6, 2) := by decide +kernel
theorem dX9_laySlot_26 : decode cX9_laySlot 26 = .ok (.iload 6, 2) := by decide +kernel
theorem dX9_laySlot_28 : decode cX9_laySlot 28 = .ok (.iload_n 2, 1) := by decide +kernel
theorem dX9_laySlot_29 : decode cX9_laySlot 29 = .ok (.if_icmp .ge 38, 3) := by decide +kernel
theorem dX9_laySlot_32 : decode cX9_laySlot 32 = .ok (.aload_n 0, 1) := by decide +kernel
theorem dX9_laySlot_33 : decode cX9_laySlot 33 = .ok (.getfield 93, 3) := by decide +kernel
theorem dX9_laySlot_36 : decode cX9_laySlot 36 = .ok (.bipush 6, 2) := by decide +kernel
theorem dX9_laySlot_38 : decode cX9_laySlot 38 = .ok (.iload_n 1, 1) := by decide +kernel
theorem dX9_laySlot_39 : decode cX9_laySlot 39 = .ok (.imul, 1) := by decide +kernel
theorem dX9_laySlot_40 : decode cX9_laySlot 40 = .ok (.iload 6, 2) := by decide +kernel
theorem dX9_laySlot_42 : decode cX9_laySlot 42 = .ok (.iadd, 1) := by decide +kernel
theorem dX9_laySlot_43 : decode cX9_laySlot 43 = .ok (.baload, 1) := by decide +kernel
theorem dX9_laySlot_44 : decode cX9_laySlot 44 = .ok (.ifCond .eq 17, 3) := by decide +kernel
theorem dX9_laySlot_47 : decode cX9_laySlot 47 = .ok (.aload_n 0, 1) := by decide +kernel
theorem dX9_laySlot_48 : decode cX9_laySlot 48 = .ok (.getfield 99, 3) := by decide +kernel
theorem dX9_laySlot_51 : decode cX9_laySlot 51 = .ok (.bipush 6, 2) := by decide +kernel
theorem dX9_laySlot_53 : decode cX9_laySlot 53 = .ok (.iload_n 1, 1) := by decide +kernel
theorem dX9_laySlot_54 : decode cX9_laySlot 54 = .ok (.imul, 1) := by decide +kernel
theorem dX9_laySlot_55 : decode cX9_laySlot 55 = .ok (.iload 6, 2) := by decide +kernel
theorem dX9_laySlot_57 : decode cX9_laySlot 57 = .ok (.iadd, 1) := by decide +kernel
theorem dX9_laySlot_58 : decode cX9_laySlot 58 = .ok (.iaload, 1) := by decide +kernel
theorem dX9_laySlot_59 : decode cX9_laySlot 59 = .ok (.istore 5, 2) := by decide +kernel
theorem dX9_laySlot_61 : decode cX9_laySlot 61 = .ok (.iinc 6 1, 3) := by decide +kernel
theorem dX9_laySlot_64 : decode cX9_laySlot 64 = .ok (.goto (-38), 3) := by decide +kernel
theorem dX9_laySlot_67 : decode cX9_laySlot 67 = .ok (.aload_n 0, 1) := by decide +kernel
theorem dX9_laySlot_68 : decode cX9_laySlot 68 = .ok (.getfield 240, 3) := by decide +kernel
theorem dX9_laySlot_71 : decode cX9_laySlot 71 = .ok (.ifCond .eq 12, 3) := by decide +kernel
theorem dX9_laySlot_74 : decode cX9_laySlot 74 = .ok (.aload_n 0, 1) := by decide +kernel
theorem dX9_laySlot_75 : decode cX9_laySlot 75 = .ok (.getfield 57, 3) := by decide +kernel
theorem dX9_laySlot_78 : decode cX9_laySlot 78 = .ok (.iload_n 1, 1) := by decide +kernel
theorem dX9_laySlot_79 : decode cX9_laySlot 79 = .ok (.baload, 1) := by decide +kernel
theorem dX9_laySlot_80 : decode cX9_laySlot 80 = .ok (.ifCond .eq 7, 3) := by decide +kernel
theorem dX9_laySlot_83 : decode cX9_laySlot 83 = .ok (.iconst 1, 1) := by decide +kernel
theorem dX9_laySlot_84 : decode cX9_laySlot 84 = .ok (.goto 4, 3) := by decide +kernel
theorem dX9_laySlot_87 : decode cX9_laySlot 87 = .ok (.iconst 0, 1) := by decide +kernel
theorem dX9_laySlot_88 : decode cX9_laySlot 88 = .ok (.istore 6, 2) := by decide +kernel
theorem dX9_laySlot_90 : decode cX9_laySlot 90 = .ok (.iload 4, 2) := by decide +kernel
theorem dX9_laySlot_92 : decode cX9_laySlot 92 = .ok (.ineg, 1) := by decide +kernel
theorem dX9_laySlot_93 : decode cX9_laySlot 93 = .ok (.istore 7, 2) := by decide +kernel
theorem dX9_laySlot_95 : decode cX9_laySlot 95 = .ok (.iload 4, 2) := by decide +kernel
theorem dX9_laySlot_97 : decode cX9_laySlot 97 = .ok (.ifCond .lt 66, 3) := by decide +kernel
theorem dX9_laySlot_100 : decode cX9_laySlot 100 = .ok (.iload 6, 2) := by decide +kernel
theorem dX9_laySlot_102 : decode cX9_laySlot 102 = .ok (.ifCond .eq 18, 3) := by decide +kernel
theorem dX9_laySlot_105 : decode cX9_laySlot 105 = .ok (.aload_n 0, 1) := by decide +kernel
theorem dX9_laySlot_106 : decode cX9_laySlot 106 = .ok (.iload 4, 2) := by decide +kernel
theorem dX9_laySlot_108 : decode cX9_laySlot 108 = .ok (.iload_n 1, 1) := by decide +kernel
theorem dX9_laySlot_109 : decode cX9_laySlot 109 = .ok (.iload_n 2, 1) := by decide +kernel
theorem dX9_laySlot_110 : decode cX9_laySlot 110 = .ok (.invokevirtual 260, 3) := by decide +kernel
theorem dX9_laySlot_113 : decode cX9_laySlot 113 = .ok (.ifCond .eq 7, 3) := by decide +kernel
theorem dX9_laySlot_116 : decode cX9_laySlot 116 = .ok (.iconst 1, 1) := by decide +kernel
theorem dX9_laySlot_117 : decode cX9_laySlot 117 = .ok (.goto 4, 3) := by decide +kernel
theorem dX9_laySlot_120 : decode cX9_laySlot 120 = .ok (.iconst 0, 1) := by decide +kernel
theorem dX9_laySlot_121 : decode cX9_laySlot 121 = .ok (.istore 6, 2) := by decide +kernel
theorem dX9_laySlot_123 : decode cX9_laySlot 123 = .ok (.iload 6, 2) := by decide +kernel
theorem dX9_laySlot_125 : decode cX9_laySlot 125 = .ok (.ifCond .ne 4, 3) := by decide +kernel
theorem dX9_laySlot_128 : decode cX9_laySlot 128 = .ok (.return_, 1) := by decide +kernel
theorem dX9_laySlot_129 : decode cX9_laySlot 129 = .ok (.iload 5, 2) := by decide +kernel
theorem dX9_laySlot_131 : decode cX9_laySlot 131 = .ok (.aload_n 0, 1) := by decide +kernel
theorem dX9_laySlot_132 : decode cX9_laySlot 132 = .ok (.iload 4, 2) := by decide +kernel
theorem dX9_laySlot_134 : decode cX9_laySlot 134 = .ok (.iload_n 1, 1) := by decide +kernel
theorem dX9_laySlot_135 : decode cX9_laySlot 135 = .ok (.iload_n 2, 1) := by decide +kernel
theorem dX9_laySlot_136 : decode cX9_laySlot 136 = .ok (.invokevirtual 263, 3) := by decide +kernel
theorem dX9_laySlot_139 : decode cX9_laySlot 139 = .ok (.invokestatic 194, 3) := by decide +kernel
theorem dX9_laySlot_142 : decode cX9_laySlot 142 = .ok (.istore 5, 2) := by decide +kernel
theorem dX9_laySlot_144 : decode cX9_laySlot 144 = .ok (.aload_n 0, 1) := by decide +kernel
theorem dX9_laySlot_145 : decode cX9_laySlot 145 = .ok (.getfield 75, 3) := by decide +kernel
theorem dX9_laySlot_148 : decode cX9_laySlot 148 = .ok (.aload_n 0, 1) := by decide +kernel
theorem dX9_laySlot_149 : decode cX9_laySlot 149 = .ok (.getfield 16, 3) := by decide +kernel
theorem dX9_laySlot_152 : decode cX9_laySlot 152 = .ok (.iload 4, 2) := by decide +kernel
theorem dX9_laySlot_154 : decode cX9_laySlot 154 = .ok (.bipush 16, 2) := by decide +kernel
theorem dX9_laySlot_156 : decode cX9_laySlot 156 = .ok (.idiv, 1) := by decide +kernel
theorem dX9_laySlot_157 : decode cX9_laySlot 157 = .ok (.iaload, 1) := by decide +kernel
theorem dX9_laySlot_158 : decode cX9_laySlot 158 = .ok (.iconst 1, 1) := by decide +kernel
theorem dX9_laySlot_159 : decode cX9_laySlot 159 = .ok (.isub, 1) := by decide +kernel
theorem dX9_laySlot_160 : decode cX9_laySlot 160 = .ok (.iaload, 1) := by decide +kernel
theorem dX9_laySlot_161 : decode cX9_laySlot 161 = .ok (.istore 7, 2) := by decide +kernel
theorem dX9_laySlot_163 : decode cX9_laySlot 163 = .ok (.iload 6, 2) := by decide +kernel
theorem dX9_laySlot_165 : decode cX9_laySlot 165 = .ok (.ifCond .eq 35, 3) := by decide +kernel
theorem dX9_laySlot_168 : decode cX9_laySlot 168 = .ok (.iload 5, 2) := by decide +kernel
theorem dX9_laySlot_170 : decode cX9_laySlot 170 = .ok (.iload 7, 2) := by decide +kernel
theorem dX9_laySlot_172 : decode cX9_laySlot 172 = .ok (.iadd, 1) := by decide +kernel
theorem dX9_laySlot_173 : decode cX9_laySlot 173 = .ok (.aload_n 0, 1) := by decide +kernel
theorem dX9_laySlot_174 : decode cX9_laySlot 174 = .ok (.getfield 75, 3) := by decide +kernel
theorem dX9_laySlot_177 : decode cX9_laySlot 177 = .ok (.iconst 3, 1) := by decide +kernel
theorem dX9_laySlot_178 : decode cX9_laySlot 178 = .ok (.iaload, 1) := by decide +kernel
theorem dX9_laySlot_179 : decode cX9_laySlot 179 = .ok (.if_icmp .le 22, 3) := by decide +kernel
theorem dX9_laySlot_182 : decode cX9_laySlot 182 = .ok (.aload_n 0, 1) := by decide +kernel
theorem dX9_laySlot_183 : decode cX9_laySlot 183 = .ok (.getfield 60, 3) := by decide +kernel
theorem dX9_laySlot_186 : decode cX9_laySlot 186 = .ok (.iload_n 1, 1) := by decide +kernel
theorem dX9_laySlot_187 : decode cX9_laySlot 187 = .ok (.baload, 1) := by decide +kernel
theorem dX9_laySlot_188 : decode cX9_laySlot 188 = .ok (.ifCond .ne 13, 3) := by decide +kernel
theorem dX9_laySlot_191 : decode cX9_laySlot 191 = .ok (.aload_n 0, 1) := by decide +kernel
theorem dX9_laySlot_192 : decode cX9_laySlot 192 = .ok (.getfield 57, 3) := by decide +kernel
theorem dX9_laySlot_195 : decode cX9_laySlot 195 = .ok (.iload_n 1, 1) := by decide +kernel
theorem dX9_laySlot_196 : decode cX9_laySlot 196 = .ok (.baload, 1) := by decide +kernel
theorem dX9_laySlot_197 : decode cX9_laySlot 197 = .ok (.ifCond .ne 4, 3) := by decide +kernel
theorem dX9_laySlot_200 : decode cX9_laySlot 200 = .ok (.return_, 1) := by decide +kernel
theorem dX9_laySlot_201 : decode cX9_laySlot 201 = .ok (.aload_n 0, 1) := by decide +kernel
theorem dX9_laySlot_202 : decode cX9_laySlot 202 = .ok (.getfield 93, 3) := by decide +kernel
theorem dX9_laySlot_205 : decode cX9_laySlot 205 = .ok (.iload_n 3, 1) := by decide +kernel
theorem dX9_laySlot_206 : decode cX9_laySlot 206 = .ok (.iconst 1, 1) := by decide +kernel
theorem dX9_laySlot_207 : decode cX9_laySlot 207 = .ok (.bastore, 1) := by decide +kernel
theorem dX9_laySlot_208 : decode cX9_laySlot 208 = .ok (.aload_n 0, 1) := by decide +kernel
theorem dX9_laySlot_209 : decode cX9_laySlot 209 = .ok (.getfield 96, 3) := by decide +kernel
theorem dX9_laySlot_212 : decode cX9_laySlot 212 = .ok (.iload_n 3, 1) := by decide +kernel
theorem dX9_laySlot_213 : decode cX9_laySlot 213 = .ok (.iload 5, 2) := by decide +kernel
theorem dX9_laySlot_215 : decode cX9_laySlot 215 = .ok (.iastore, 1) := by decide +kernel
theorem dX9_laySlot_216 : decode cX9_laySlot 216 = .ok (.aload_n 0, 1) := by decide +kernel
theorem dX9_laySlot_217 : decode cX9_laySlot 217 = .ok (.getfield 99, 3) := by decide +kernel
theorem dX9_laySlot_220 : decode cX9_laySlot 220 = .ok (.iload_n 3, 1) := by decide +kernel
theorem dX9_laySlot_221 : decode cX9_laySlot 221 = .ok (.iload 5, 2) := by decide +kernel
theorem dX9_laySlot_223 : decode cX9_laySlot 223 = .ok (.iload 7, 2) := by decide +kernel
theorem dX9_laySlot_225 : decode cX9_laySlot 225 = .ok (.iadd, 1) := by decide +kernel
theorem dX9_laySlot_226 : decode cX9_laySlot 226 = .ok (.iastore, 1) := by decide +kernel
theorem dX9_laySlot_227 : decode cX9_laySlot 227 = .ok (.return_, 1) := by decide +kernel
theorem dX9_mayStand_0 : decode cX9_mayStand 0 = .ok (.aload_n 0, 1) := by decide +kernel
theorem dX9_mayStand_1 : decode cX9_mayStand 1 = .ok (.iload_n 1, 1) := by decide +kernel
theorem dX9_mayStand_2 : decode cX9_mayStand 2 = .ok (.invokevirtual 191, 3) := by decide +kernel
theorem dX9_mayStand_5 : decode cX9_mayStand 5 = .ok (.ifCond .eq 21, 3) := by decide +kernel
theorem dX9_mayStand_8 : decode cX9_mayStand 8 = .ok (.aload_n 0, 1) := by decide +kernel
theorem dX9_mayStand_9 : decode cX9_mayStand 9 = .ok (.iload_n 1, 1) := by decide +kernel
theorem dX9_mayStand_10 : decode cX9_mayStand 10 = .ok (.invokevirtual 161, 3) := by decide +kernel
theorem dX9_mayStand_13 : decode cX9_mayStand 13 = .ok (.ifCond .ne 13, 3) := by decide +kernel
theorem dX9_mayStand_16 : decode cX9_mayStand 16 = .ok (.aload_n 0, 1) := by decide +kernel
theorem dX9_mayStand_17 : decode cX9_mayStand 17 = .ok (.iload_n 1, 1) := by decide +kernel
theorem dX9_mayStand_18 : decode cX9_mayStand 18 = .ok (.iload_n 2, 1) := by decide +kernel
theorem dX9_mayStand_19 : decode cX9_mayStand 19 = .ok (.iload_n 3, 1) := by decide +kernel
theorem dX9_mayStand_20 : decode cX9_mayStand 20 = .ok (.invokevirtual 267, 3) := by decide +kernel
theorem dX9_mayStand_23 : decode cX9_mayStand 23 = .ok (.ifCond .eq 5, 3) := by decide +kernel
theorem dX9_mayStand_26 : decode cX9_mayStand 26 = .ok (.iconst 0, 1) := by decide +kernel
theorem dX9_mayStand_27 : decode cX9_mayStand 27 = .ok (.ireturn, 1) := by decide +kernel
theorem dX9_mayStand_28 : decode cX9_mayStand 28 = .ok (.iconst 1, 1) := by decide +kernel
theorem dX9_mayStand_29 : decode cX9_mayStand 29 = .ok (.istore 4, 2) := by decide +kernel
theorem dX9_mayStand_31 : decode cX9_mayStand 31 = .ok (.iconst 0, 1) := by decide +kernel
theorem dX9_mayStand_32 : decode cX9_mayStand 32 = .ok (.istore 5, 2) := by decide +kernel
theorem dX9_mayStand_34 : decode cX9_mayStand 34 = .ok (.iload 5, 2) := by decide +kernel
theorem dX9_mayStand_36 : decode cX9_mayStand 36 = .ok (.iconst 2, 1) := by decide +kernel
theorem dX9_mayStand_37 : decode cX9_mayStand 37 = .ok (.if_icmp .ge 65, 3) := by decide +kernel
theorem dX9_mayStand_40 : decode cX9_mayStand 40 = .ok (.aload_n 0, 1) := by decide +kernel
theorem dX9_mayStand_41 : decode cX9_mayStand 41 = .ok (.iload_n 1, 1) := by decide +kernel
theorem dX9_mayStand_42 : decode cX9_mayStand 42 = .ok (.iload 5, 2) := by decide +kernel
theorem dX9_mayStand_44 : decode cX9_mayStand 44 = .ok (.invokevirtual 173, 3) := by decide +kernel
theorem dX9_mayStand_47 : decode cX9_mayStand 47 = .ok (.ifCond .lt 6, 3) := by decide +kernel
theorem dX9_mayStand_50 : decode cX9_mayStand 50 = .ok (.goto 46, 3) := by decide +kernel
theorem dX9_mayStand_53 : decode cX9_mayStand 53 = .ok (.iload 4, 2) := by decide +kernel
theorem dX9_mayStand_55 : decode cX9_mayStand 55 = .ok (.ifCond .eq 38, 3) := by decide +kernel
theorem dX9_mayStand_58 : decode cX9_mayStand 58 = .ok (.aload_n 0, 1) := by decide +kernel
theorem dX9_mayStand_59 : decode cX9_mayStand 59 = .ok (.iload_n 1, 1) := by decide +kernel
theorem dX9_mayStand_60 : decode cX9_mayStand 60 = .ok (.bipush 16, 2) := by decide +kernel
theorem dX9_mayStand_62 : decode cX9_mayStand 62 = .ok (.idiv, 1) := by decide +kernel
theorem dX9_mayStand_63 : decode cX9_mayStand 63 = .ok (.iload_n 1, 1) := by decide +kernel
theorem dX9_mayStand_64 : decode cX9_mayStand 64 = .ok (.bipush 16, 2) := by decide +kernel
theorem dX9_mayStand_66 : decode cX9_mayStand 66 = .ok (.irem, 1) := by decide +kernel
theorem dX9_mayStand_67 : decode cX9_mayStand 67 = .ok (.invokevirtual 167, 3) := by decide +kernel
theorem dX9_mayStand_70 : decode cX9_mayStand 70 = .ok (.ifCond .le 23, 3) := by decide +kernel
theorem dX9_mayStand_73 : decode cX9_mayStand 73 = .ok (.aload_n 0, 1) := by decide +kernel
theorem dX9_mayStand_74 : decode cX9_mayStand 74 = .ok (.aload_n 0, 1) := by decide +kernel
theorem dX9_mayStand_75 : decode cX9_mayStand 75 = .ok (.iload_n 1, 1) := by decide +kernel
theorem dX9_mayStand_76 : decode cX9_mayStand 76 = .ok (.iload 5, 2) := by decide +kernel
theorem dX9_mayStand_78 : decode cX9_mayStand 78 = .ok (.invokevirtual 182, 3) := by decide +kernel
theorem dX9_mayStand_81 : decode cX9_mayStand 81 = .ok (.iload_n 2, 1) := by decide +kernel
theorem dX9_mayStand_82 : decode cX9_mayStand 82 = .ok (.iload_n 3, 1) := by decide +kernel
theorem dX9_mayStand_83 : decode cX9_mayStand 83 = .ok (.invokevirtual 267, 3) := by decide +kernel
theorem dX9_mayStand_86 : decode cX9_mayStand 86 = .ok (.ifCond .eq 7, 3) := by decide +kernel
theorem dX9_mayStand_89 : decode cX9_mayStand 89 = .ok (.iconst 1, 1) := by decide +kernel
theorem dX9_mayStand_90 : decode cX9_mayStand 90 = .ok (.goto 4, 3) := by decide +kernel
theorem dX9_mayStand_93 : decode cX9_mayStand 93 = .ok (.iconst 0, 1) := by decide +kernel
theorem dX9_mayStand_94 : decode cX9_mayStand 94 = .ok (.istore 4, 2) := by decide +kernel
theorem dX9_mayStand_96 : decode cX9_mayStand 96 = .ok (.iinc 5 1, 3) := by decide +kernel
theorem dX9_mayStand_99 : decode cX9_mayStand 99 = .ok (.goto (-65), 3) := by decide +kernel
theorem dX9_mayStand_102 : decode cX9_mayStand 102 = .ok (.iload 4, 2) := by decide +kernel
theorem dX9_mayStand_104 : decode cX9_mayStand 104 = .ok (.ireturn, 1) := by decide +kernel
theorem dX9_isOn_0 : decode cX9_isOn 0 = .ok (.iload_n 2, 1) := by decide +kernel
theorem dX9_isOn_1 : decode cX9_isOn 1 = .ok (.ifCond .lt 27, 3) := by decide +kernel
theorem dX9_isOn_4 : decode cX9_isOn 4 = .ok (.aload_n 0, 1) := by decide +kernel
theorem dX9_isOn_5 : decode cX9_isOn 5 = .ok (.iload_n 1, 1) := by decide +kernel
theorem dX9_isOn_6 : decode cX9_isOn 6 = .ok (.iconst 0, 1) := by decide +kernel
theorem dX9_isOn_7 : decode cX9_isOn 7 = .ok (.invokevirtual 173, 3) := by decide +kernel
theorem dX9_isOn_10 : decode cX9_isOn 10 = .ok (.iload_n 2, 1) := by decide +kernel
theorem dX9_isOn_11 : decode cX9_isOn 11 = .ok (.if_icmp .eq 13, 3) := by decide +kernel
theorem dX9_isOn_14 : decode cX9_isOn 14 = .ok (.aload_n 0, 1) := by decide +kernel
theorem dX9_isOn_15 : decode cX9_isOn 15 = .ok (.iload_n 1, 1) := by decide +kernel
theorem dX9_isOn_16 : decode cX9_isOn 16 = .ok (.iconst 1, 1) := by decide +kernel
theorem dX9_isOn_17 : decode cX9_isOn 17 = .ok (.invokevirtual 173, 3) := by decide +kernel
theorem dX9_isOn_20 : decode cX9_isOn 20 = .ok (.iload_n 2, 1) := by decide +kernel
theorem dX9_isOn_21 : decode cX9_isOn 21 = .ok (.if_icmp .ne 7, 3) := by decide +kernel
theorem dX9_isOn_24 : decode cX9_isOn 24 = .ok (.iconst 1, 1) := by decide +kernel
theorem dX9_isOn_25 : decode cX9_isOn 25 = .ok (.goto 4, 3) := by decide +kernel
theorem dX9_isOn_28 : decode cX9_isOn 28 = .ok (.iconst 0, 1) := by decide +kernel
theorem dX9_isOn_29 : decode cX9_isOn 29 = .ok (.ireturn, 1) := by decide +kernel
theorem dX9_lastEnd_0 : decode cX9_lastEnd 0 = .ok (.iconst (-1), 1) := by decide +kernel
theorem dX9_lastEnd_1 : decode cX9_lastEnd 1 = .ok (.istore_n 2, 1) := by decide +kernel
theorem dX9_lastEnd_2 : decode cX9_lastEnd 2 = .ok (.iconst 0, 1) := by decide +kernel
theorem dX9_lastEnd_3 : decode cX9_lastEnd 3 = .ok (.istore_n 3, 1) := by decide +kernel
theorem dX9_lastEnd_4 : decode cX9_lastEnd 4 = .ok (.iload_n 3, 1) := by decide +kernel
theorem dX9_lastEnd_5 : decode cX9_lastEnd 5 = .ok (.bipush 64, 2) := by decide +kernel
theorem dX9_lastEnd_7 : decode cX9_lastEnd 7 = .ok (.if_icmp .ge 54, 3) := by decide +kernel
theorem dX9_lastEnd_10 : decode cX9_lastEnd 10 = .ok (.aload_n 0, 1) := by decide +kernel
theorem dX9_lastEnd_11 : decode cX9_lastEnd 11 = .ok (.iload_n 3, 1) := by decide +kernel
theorem dX9_lastEnd_12 : decode cX9_lastEnd 12 = .ok (.invokevirtual 191, 3) := by decide +kernel
theorem dX9_lastEnd_15 : decode cX9_lastEnd 15 = .ok (.ifCond .eq 40, 3) := by decide +kernel
theorem dX9_lastEnd_18 : decode cX9_lastEnd 18 = .ok (.aload_n 0, 1) := by decide +kernel
theorem dX9_lastEnd_19 : decode cX9_lastEnd 19 = .ok (.iload_n 3, 1) := by decide +kernel
theorem dX9_lastEnd_20 : decode cX9_lastEnd 20 = .ok (.invokevirtual 161, 3) := by decide +kernel
theorem dX9_lastEnd_23 : decode cX9_lastEnd 23 = .ok (.ifCond .eq 32, 3) := by decide +kernel
theorem dX9_lastEnd_26 : decode cX9_lastEnd 26 = .ok (.aload_n 0, 1) := by decide +kernel
theorem dX9_lastEnd_27 : decode cX9_lastEnd 27 = .ok (.getfield 51, 3) := by decide +kernel
theorem dX9_lastEnd_30 : decode cX9_lastEnd 30 = .ok (.iload_n 3, 1) := by decide +kernel
theorem dX9_lastEnd_31 : decode cX9_lastEnd 31 = .ok (.iaload, 1) := by decide +kernel
theorem dX9_lastEnd_32 : decode cX9_lastEnd 32 = .ok (.ifCond .lt 23, 3) := by decide +kernel
theorem dX9_lastEnd_35 : decode cX9_lastEnd 35 = .ok (.aload_n 0, 1) := by decide +kernel
theorem dX9_lastEnd_36 : decode cX9_lastEnd 36 = .ok (.iload_n 3, 1) := by decide +kernel
theorem dX9_lastEnd_37 : decode cX9_lastEnd 37 = .ok (.iload_n 1, 1) := by decide +kernel
theorem dX9_lastEnd_38 : decode cX9_lastEnd 38 = .ok (.invokevirtual 270, 3) := by decide +kernel
theorem dX9_lastEnd_41 : decode cX9_lastEnd 41 = .ok (.ifCond .eq 14, 3) := by decide +kernel
theorem dX9_lastEnd_44 : decode cX9_lastEnd 44 = .ok (.iload_n 2, 1) := by decide +kernel
theorem dX9_lastEnd_45 : decode cX9_lastEnd 45 = .ok (.aload_n 0, 1) := by decide +kernel
theorem dX9_lastEnd_46 : decode cX9_lastEnd 46 = .ok (.getfield 51, 3) := by decide +kernel
theorem dX9_lastEnd_49 : decode cX9_lastEnd 49 = .ok (.iload_n 3, 1) := by decide +kernel
theorem dX9_lastEnd_50 : decode cX9_lastEnd 50 = .ok (.iaload, 1) := by decide +kernel
theorem dX9_lastEnd_51 : decode cX9_lastEnd 51 = .ok (.invokestatic 194, 3) := by decide +kernel
theorem dX9_lastEnd_54 : decode cX9_lastEnd 54 = .ok (.istore_n 2, 1) := by decide +kernel
theorem dX9_lastEnd_55 : decode cX9_lastEnd 55 = .ok (.iinc 3 1, 3) := by decide +kernel
theorem dX9_lastEnd_58 : decode cX9_lastEnd 58 = .ok (.goto (-54), 3) := by decide +kernel
theorem dX9_lastEnd_61 : decode cX9_lastEnd 61 = .ok (.iload_n 2, 1) := by decide +kernel
theorem dX9_lastEnd_62 : decode cX9_lastEnd 62 = .ok (.ireturn, 1) := by decide +kernel
theorem dX9_earliest_0 : decode cX9_earliest 0 = .ok (.iconst 0, 1) := by decide +kernel
theorem dX9_earliest_1 : decode cX9_earliest 1 = .ok (.istore 4, 2) := by decide +kernel
theorem dX9_earliest_3 : decode cX9_earliest 3 = .ok (.iconst 0, 1) := by decide +kernel
theorem dX9_earliest_4 : decode cX9_earliest 4 = .ok (.istore 5, 2) := by decide +kernel
theorem dX9_earliest_6 : decode cX9_earliest 6 = .ok (.iload 5, 2) := by decide +kernel
theorem dX9_earliest_8 : decode cX9_earliest 8 = .ok (.iconst 2, 1) := by decide +kernel
theorem dX9_earliest_9 : decode cX9_earliest 9 = .ok (.if_icmp .ge 56, 3) := by decide +kernel
theorem dX9_earliest_12 : decode cX9_earliest 12 = .ok (.aload_n 0, 1) := by decide +kernel
theorem dX9_earliest_13 : decode cX9_earliest 13 = .ok (.iload_n 1, 1) := by decide +kernel
theorem dX9_earliest_14 : decode cX9_earliest 14 = .ok (.iload 5, 2) := by decide +kernel
theorem dX9_earliest_16 : decode cX9_earliest 16 = .ok (.invokevirtual 173, 3) := by decide +kernel
theorem dX9_earliest_19 : decode cX9_earliest 19 = .ok (.istore 6, 2) := by decide +kernel
theorem dX9_earliest_21 : decode cX9_earliest 21 = .ok (.iload 6, 2) := by decide +kernel
theorem dX9_earliest_23 : decode cX9_earliest 23 = .ok (.ifCond .ge 7, 3) := by decide +kernel
theorem dX9_earliest_26 : decode cX9_earliest 26 = .ok (.iconst (-1), 1) := by decide +kernel
theorem dX9_earliest_27 : decode cX9_earliest 27 = .ok (.goto 9, 3) := by decide +kernel
theorem dX9_earliest_30 : decode cX9_earliest 30 = .ok (.aload_n 0, 1) := by decide +kernel
theorem dX9_earliest_31 : decode cX9_earliest 31 = .ok (.iload 6, 2) := by decide +kernel
theorem dX9_earliest_33 : decode cX9_earliest 33 = .ok (.invokevirtual 273, 3) := by decide +kernel
theorem dX9_earliest_36 : decode cX9_earliest 36 = .ok (.istore 7, 2) := by decide +kernel
theorem dX9_earliest_38 : decode cX9_earliest 38 = .ok (.iload 7, 2) := by decide +kernel
theorem dX9_earliest_40 : decode cX9_earliest 40 = .ok (.ifCond .lt 19, 3) := by decide +kernel
theorem dX9_earliest_43 : decode cX9_earliest 43 = .ok (.iload 4, 2) := by decide +kernel
theorem dX9_earliest_45 : decode cX9_earliest 45 = .ok (.iload 7, 2) := by decide +kernel
theorem dX9_earliest_47 : decode cX9_earliest 47 = .ok (.aload_n 0, 1) := by decide +kernel
theorem dX9_earliest_48 : decode cX9_earliest 48 = .ok (.getfield 75, 3) := by decide +kernel
theorem dX9_earliest_51 : decode cX9_earliest 51 = .ok (.iconst 0, 1) := by decide +kernel
theorem dX9_earliest_52 : decode cX9_earliest 52 = .ok (.iaload, 1) := by decide +kernel
theorem dX9_earliest_53 : decode cX9_earliest 53 = .ok (.iadd, 1) := by decide +kernel
theorem dX9_earliest_54 : decode cX9_earliest 54 = .ok (.invokestatic 194, 3) := by decide +kernel
theorem dX9_earliest_57 : decode cX9_earliest 57 = .ok (.istore 4, 2) := by decide +kernel
theorem dX9_earliest_59 : decode cX9_earliest 59 = .ok (.iinc 5 1, 3) := by decide +kernel
theorem dX9_earliest_62 : decode cX9_earliest 62 = .ok (.goto (-56), 3) := by decide +kernel
theorem dX9_earliest_65 : decode cX9_earliest 65 = .ok (.iconst 0, 1) := by decide +kernel
theorem dX9_earliest_66 : decode cX9_earliest 66 = .ok (.istore 5, 2) := by decide +kernel
theorem dX9_earliest_68 : decode cX9_earliest 68 = .ok (.iload 5, 2) := by decide +kernel
theorem dX9_earliest_70 : decode cX9_earliest 70 = .ok (.bipush 36, 2) := by decide +kernel
theorem dX9_earliest_72 : decode cX9_earliest 72 = .ok (.if_icmp .ge 150, 3) := by decide +kernel
theorem dX9_earliest_75 : decode cX9_earliest 75 = .ok (.aload_n 0, 1) := by decide +kernel
theorem dX9_earliest_76 : decode cX9_earliest 76 = .ok (.getfield 93, 3) := by decide +kernel
theorem dX9_earliest_79 : decode cX9_earliest 79 = .ok (.iload 5, 2) := by decide +kernel
theorem dX9_earliest_81 : decode cX9_earliest 81 = .ok (.baload, 1) := by decide +kernel
theorem dX9_earliest_82 : decode cX9_earliest 82 = .ok (.ifCond .eq 134, 3) := by decide +kernel
theorem dX9_earliest_85 : decode cX9_earliest 85 = .ok (.aload_n 0, 1) := by decide +kernel
theorem dX9_earliest_86 : decode cX9_earliest 86 = .ok (.getfield 72, 3) := by decide +kernel
theorem dX9_earliest_89 : decode cX9_earliest 89 = .ok (.iload 5, 2) := by decide +kernel
theorem dX9_earliest_91 : decode cX9_earliest 91 = .ok (.iaload, 1) := by decide +kernel
theorem dX9_earliest_92 : decode cX9_earliest 92 = .ok (.ifCond .lt 124, 3) := by decide +kernel
theorem dX9_earliest_95 : decode cX9_earliest 95 = .ok (.iload 5, 2) := by decide +kernel
theorem dX9_earliest_97 : decode cX9_earliest 97 = .ok (.bipush 6, 2) := by decide +kernel
theorem dX9_earliest_99 : decode cX9_earliest 99 = .ok (.idiv, 1) := by decide +kernel
theorem dX9_earliest_100 : decode cX9_earliest 100 = .ok (.iload 5, 2) := by decide +kernel
theorem dX9_earliest_102 : decode cX9_earliest 102 = .ok (.bipush 6, 2) := by decide +kernel
theorem dX9_earliest_104 : decode cX9_earliest 104 = .ok (.irem, 1) := by decide +kernel
theorem dX9_earliest_105 : decode cX9_earliest 105 = .ok (.iload_n 2, 1) := by decide +kernel
theorem dX9_earliest_106 : decode cX9_earliest 106 = .ok (.iload_n 3, 1) := by decide +kernel
theorem dX9_earliest_107 : decode cX9_earliest 107 = .ok (.invokestatic 256, 3) := by decide +kernel
theorem dX9_earliest_110 : decode cX9_earliest 110 = .ok (.ifCond .ne 6, 3) := by decide +kernel
theorem dX9_earliest_113 : decode cX9_earliest 113 = .ok (.goto 103, 3) := by decide +kernel
theorem dX9_earliest_116 : decode cX9_earliest 116 = .ok (.aload_n 0, 1) := by decide +kernel
theorem dX9_earliest_117 : decode cX9_earliest 117 = .ok (.aload_n 0, 1) := by decide +kernel
theorem dX9_earliest_118 : decode cX9_earliest 118 = .ok (.getfield 72, 3) := by decide +kernel
theorem dX9_earliest_121 : decode cX9_earliest 121 = .ok (.iload 5, 2) := by decide +kernel
theorem dX9_earliest_123 : decode cX9_earliest 123 = .ok (.iaload, 1) := by decide +kernel
theorem dX9_earliest_124 : decode cX9_earliest 124 = .ok (.invokevirtual 217, 3) := by decide +kernel
theorem dX9_earliest_127 : decode cX9_earliest 127 = .ok (.iload_n 1, 1) := by decide +kernel
theorem dX9_earliest_128 : decode cX9_earliest 128 = .ok (.if_icmp .ne 7, 3) := by decide +kernel
theorem dX9_earliest_131 : decode cX9_earliest 131 = .ok (.iconst 1, 1) := by decide +kernel
theorem dX9_earliest_132 : decode cX9_earliest 132 = .ok (.goto 4, 3) := by decide +kernel
theorem dX9_earliest_135 : decode cX9_earliest 135 = .ok (.iconst 0, 1) := by decide +kernel
theorem dX9_earliest_136 : decode cX9_earliest 136 = .ok (.istore 6, 2) := by decide +kernel
theorem dX9_earliest_138 : decode cX9_earliest 138 = .ok (.aload_n 0, 1) := by decide +kernel
theorem dX9_earliest_139 : decode cX9_earliest 139 = .ok (.aload_n 0, 1) := by decide +kernel
theorem dX9_earliest_140 : decode cX9_earliest 140 = .ok (.getfield 72, 3) := by decide +kernel
theorem dX9_earliest_143 : decode cX9_earliest 143 = .ok (.iload 5, 2) := by decide +kernel
theorem dX9_earliest_145 : decode cX9_earliest 145 = .ok (.iaload, 1) := by decide +kernel
theorem dX9_earliest_146 : decode cX9_earliest 146 = .ok (.aload_n 0, 1) := by decide +kernel
theorem dX9_earliest_147 : decode cX9_earliest 147 = .ok (.iload_n 1, 1) := by decide +kernel
theorem dX9_earliest_148 : decode cX9_earliest 148 = .ok (.iconst 0, 1) := by decide +kernel
theorem dX9_earliest_149 : decode cX9_earliest 149 = .ok (.invokevirtual 173, 3) := by decide +kernel
theorem dX9_earliest_152 : decode cX9_earliest 152 = .ok (.invokevirtual 270, 3) := by decide +kernel
theorem dX9_earliest_155 : decode cX9_earliest 155 = .ok (.ifCond .ne 23, 3) := by decide +kernel
theorem dX9_earliest_158 : decode cX9_earliest 158 = .ok (.aload_n 0, 1) := by decide +kernel
theorem dX9_earliest_159 : decode cX9_earliest 159 = .ok (.aload_n 0, 1) := by decide +kernel
theorem dX9_earliest_160 : decode cX9_earliest 160 = .ok (.getfield 72, 3) := by decide +kernel
theorem dX9_earliest_163 : decode cX9_earliest 163 = .ok (.iload 5, 2) := by decide +kernel
theorem dX9_earliest_165 : decode cX9_earliest 165 = .ok (.iaload, 1) := by decide +kernel
theorem dX9_earliest_166 : decode cX9_earliest 166 = .ok (.aload_n 0, 1) := by decide +kernel
theorem dX9_earliest_167 : decode cX9_earliest 167 = .ok (.iload_n 1, 1) := by decide +kernel
theorem dX9_earliest_168 : decode cX9_earliest 168 = .ok (.iconst 1, 1) := by decide +kernel
theorem dX9_earliest_169 : decode cX9_earliest 169 = .ok (.invokevirtual 173, 3) := by decide +kernel
theorem dX9_earliest_172 : decode cX9_earliest 172 = .ok (.invokevirtual 270, 3) := by decide +kernel
theorem dX9_earliest_175 : decode cX9_earliest 175 = .ok (.ifCond .eq 7, 3) := by decide +kernel
theorem dX9_earliest_178 : decode cX9_earliest 178 = .ok (.iconst 1, 1) := by decide +kernel
theorem dX9_earliest_179 : decode cX9_earliest 179 = .ok (.goto 4, 3) := by decide +kernel
theorem dX9_earliest_182 : decode cX9_earliest 182 = .ok (.iconst 0, 1) := by decide +kernel
theorem dX9_earliest_183 : decode cX9_earliest 183 = .ok (.istore 7, 2) := by decide +kernel
theorem dX9_earliest_185 : decode cX9_earliest 185 = .ok (.iload 6, 2) := by decide +kernel
theorem dX9_earliest_187 : decode cX9_earliest 187 = .ok (.ifCond .ne 8, 3) := by decide +kernel
theorem dX9_earliest_190 : decode cX9_earliest 190 = .ok (.iload 7, 2) := by decide +kernel
theorem dX9_earliest_192 : decode cX9_earliest 192 = .ok (.ifCond .eq 24, 3) := by decide +kernel
theorem dX9_earliest_195 : decode cX9_earliest 195 = .ok (.iload 4, 2) := by decide +kernel
theorem dX9_earliest_197 : decode cX9_earliest 197 = .ok (.aload_n 0, 1) := by decide +kernel
theorem dX9_earliest_198 : decode cX9_earliest 198 = .ok (.getfield 99, 3) := by decide +kernel
theorem dX9_earliest_201 : decode cX9_earliest 201 = .ok (.iload 5, 2) := by decide +kernel
theorem dX9_earliest_203 : decode cX9_earliest 203 = .ok (.iaload, 1) := by decide +kernel
theorem dX9_earliest_204 : decode cX9_earliest 204 = .ok (.aload_n 0, 1) := by decide +kernel
theorem dX9_earliest_205 : decode cX9_earliest 205 = .ok (.getfield 75, 3) := by decide +kernel
theorem dX9_earliest_208 : decode cX9_earliest 208 = .ok (.iconst 0, 1) := by decide +kernel
theorem dX9_earliest_209 : decode cX9_earliest 209 = .ok (.iaload, 1) := by decide +kernel
theorem dX9_earliest_210 : decode cX9_earliest 210 = .ok (.iadd, 1) := by decide +kernel
theorem dX9_earliest_211 : decode cX9_earliest 211 = .ok (.invokestatic 194, 3) := by decide +kernel
theorem dX9_earliest_214 : decode cX9_earliest 214 = .ok (.istore 4, 2) := by decide +kernel
theorem dX9_earliest_216 : decode cX9_earliest 216 = .ok (.iinc 5 1, 3) := by decide +kernel
theorem dX9_earliest_219 : decode cX9_earliest 219 = .ok (.goto (-151), 3) := by decide +kernel
theorem dX9_earliest_222 : decode cX9_earliest 222 = .ok (.iload 4, 2) := by decide +kernel
theorem dX9_earliest_224 : decode cX9_earliest 224 = .ok (.ireturn, 1) := by decide +kernel
theorem dX9_time_0 : decode cX9_time 0 = .ok (.aload_n 0, 1) := by decide +kernel
theorem dX9_time_1 : decode cX9_time 1 = .ok (.iload_n 1, 1) := by decide +kernel
theorem dX9_time_2 : decode cX9_time 2 = .ok (.iload_n 2, 1) := by decide +kernel
theorem dX9_time_3 : decode cX9_time 3 = .ok (.invokevirtual 250, 3) := by decide +kernel
theorem dX9_time_6 : decode cX9_time 6 = .ok (.ifCond .eq 12, 3) := by decide +kernel
theorem dX9_time_9 : decode cX9_time 9 = .ok (.iload_n 3, 1) := by decide +kernel
theorem dX9_time_10 : decode cX9_time 10 = .ok (.iconst 0, 1) := by decide +kernel
theorem dX9_time_11 : decode cX9_time 11 = .ok (.iconst 1, 1) := by decide +kernel
theorem dX9_time_12 : decode cX9_time 12 = .ok (.invokestatic 111, 3) := by decide +kernel
theorem dX9_time_15 : decode cX9_time 15 = .ok (.ifCond .ne 6, 3) := by decide +kernel
theorem dX9_time_18 : decode cX9_time 18 = .ok (.bipush (-2), 2) := by decide +kernel
theorem dX9_time_20 : decode cX9_time 20 = .ok (.ireturn, 1) := by decide +kernel
theorem dX9_time_21 : decode cX9_time 21 = .ok (.aload_n 0, 1) := by decide +kernel
theorem dX9_time_22 : decode cX9_time 22 = .ok (.invokevirtual 276, 3) := by decide +kernel
theorem dX9_time_25 : decode cX9_time 25 = .ok (.aload_n 0, 1) := by decide +kernel
theorem dX9_time_26 : decode cX9_time 26 = .ok (.getfield 93, 3) := by decide +kernel
theorem dX9_time_29 : decode cX9_time 29 = .ok (.bipush 6, 2) := by decide +kernel
theorem dX9_time_31 : decode cX9_time 31 = .ok (.iload_n 1, 1) := by decide +kernel
theorem dX9_time_32 : decode cX9_time 32 = .ok (.imul, 1) := by decide +kernel
theorem dX9_time_33 : decode cX9_time 33 = .ok (.iload_n 2, 1) := by decide +kernel
theorem dX9_time_34 : decode cX9_time 34 = .ok (.iadd, 1) := by decide +kernel
theorem dX9_time_35 : decode cX9_time 35 = .ok (.baload, 1) := by decide +kernel
theorem dX9_time_36 : decode cX9_time 36 = .ok (.ifCond .ne 5, 3) := by decide +kernel
theorem dX9_time_39 : decode cX9_time 39 = .ok (.iconst (-1), 1) := by decide +kernel
theorem dX9_time_40 : decode cX9_time 40 = .ok (.ireturn, 1) := by decide +kernel
theorem dX9_time_41 : decode cX9_time 41 = .ok (.iload_n 3, 1) := by decide +kernel
theorem dX9_time_42 : decode cX9_time 42 = .ok (.ifCond .ne 17, 3) := by decide +kernel
theorem dX9_time_45 : decode cX9_time 45 = .ok (.aload_n 0, 1) := by decide +kernel
theorem dX9_time_46 : decode cX9_time 46 = .ok (.getfield 96, 3) := by decide +kernel
theorem dX9_time_49 : decode cX9_time 49 = .ok (.bipush 6, 2) := by decide +kernel
theorem dX9_time_51 : decode cX9_time 51 = .ok (.iload_n 1, 1) := by decide +kernel
theorem dX9_time_52 : decode cX9_time 52 = .ok (.imul, 1) := by decide +kernel
theorem dX9_time_53 : decode cX9_time 53 = .ok (.iload_n 2, 1) := by decide +kernel
theorem dX9_time_54 : decode cX9_time 54 = .ok (.iadd, 1) := by decide +kernel
theorem dX9_time_55 : decode cX9_time 55 = .ok (.iaload, 1) := by decide +kernel
theorem dX9_time_56 : decode cX9_time 56 = .ok (.goto 14, 3) := by decide +kernel
theorem dX9_time_59 : decode cX9_time 59 = .ok (.aload_n 0, 1) := by decide +kernel
theorem dX9_time_60 : decode cX9_time 60 = .ok (.getfield 99, 3) := by decide +kernel
theorem dX9_time_63 : decode cX9_time 63 = .ok (.bipush 6, 2) := by decide +kernel
theorem dX9_time_65 : decode cX9_time 65 = .ok (.iload_n 1, 1) := by decide +kernel
theorem dX9_time_66 : decode cX9_time 66 = .ok (.imul, 1) := by decide +kernel
theorem dX9_time_67 : decode cX9_time 67 = .ok (.iload_n 2, 1) := by decide +kernel
theorem dX9_time_68 : decode cX9_time 68 = .ok (.iadd, 1) := by decide +kernel
theorem dX9_time_69 : decode cX9_time 69 = .ok (.iaload, 1) := by decide +kernel
theorem dX9_time_70 : decode cX9_time 70 = .ok (.ireturn, 1) := by decide +kernel
theorem dX9_over_0 : decode cX9_over 0 = .ok (.aload_n 0, 1) := by decide +kernel
theorem dX9_over_1 : decode cX9_over 1 = .ok (.iload_n 1, 1) := by decide +kernel
theorem dX9_over_2 : decode cX9_over 2 = .ok (.invokevirtual 191, 3) := by decide +kernel
theorem dX9_over_5 : decode cX9_over 5 = .ok (.ifCond .eq 10, 3) := by decide +kernel
theorem dX9_over_8 : decode cX9_over 8 = .ok (.iload_n 2, 1) := by decide +kernel
theorem dX9_over_9 : decode cX9_over 9 = .ok (.invokestatic 237, 3) := by decide +kernel
theorem dX9_over_12 : decode cX9_over 12 = .ok (.ifCond .ne 5, 3) := by decide +kernel
theorem dX9_over_15 : decode cX9_over 15 = .ok (.iconst (-1), 1) := by decide +kernel
theorem dX9_over_16 : decode cX9_over 16 = .ok (.ireturn, 1) := by decide +kernel
theorem dX9_over_17 : decode cX9_over 17 = .ok (.aload_n 0, 1) := by decide +kernel
theorem dX9_over_18 : decode cX9_over 18 = .ok (.iload_n 1, 1) := by decide +kernel
theorem dX9_over_19 : decode cX9_over 19 = .ok (.invokevirtual 161, 3) := by decide +kernel
theorem dX9_over_22 : decode cX9_over 22 = .ok (.ifCond .ne 6, 3) := by decide +kernel
theorem dX9_over_25 : decode cX9_over 25 = .ok (.bipush (-6), 2) := by decide +kernel
theorem dX9_over_27 : decode cX9_over 27 = .ok (.ireturn, 1) := by decide +kernel
theorem dX9_over_28 : decode cX9_over 28 = .ok (.aload_n 0, 1) := by decide +kernel
theorem dX9_over_29 : decode cX9_over 29 = .ok (.getfield 51, 3) := by decide +kernel
theorem dX9_over_32 : decode cX9_over 32 = .ok (.iload_n 1, 1) := by decide +kernel
theorem dX9_over_33 : decode cX9_over 33 = .ok (.iload_n 2, 1) := by decide +kernel
theorem dX9_over_34 : decode cX9_over 34 = .ok (.iastore, 1) := by decide +kernel
theorem dX9_over_35 : decode cX9_over 35 = .ok (.iconst 1, 1) := by decide +kernel
theorem dX9_over_36 : decode cX9_over 36 = .ok (.ireturn, 1) := by decide +kernel
theorem dX9_end_0 : decode cX9_end 0 = .ok (.aload_n 0, 1) := by decide +kernel
theorem dX9_end_1 : decode cX9_end 1 = .ok (.iload_n 1, 1) := by decide +kernel
theorem dX9_end_2 : decode cX9_end 2 = .ok (.invokevirtual 191, 3) := by decide +kernel
theorem dX9_end_5 : decode cX9_end 5 = .ok (.ifCond .eq 20, 3) := by decide +kernel
theorem dX9_end_8 : decode cX9_end 8 = .ok (.aload_n 0, 1) := by decide +kernel
theorem dX9_end_9 : decode cX9_end 9 = .ok (.iload_n 1, 1) := by decide +kernel
theorem dX9_end_10 : decode cX9_end 10 = .ok (.invokevirtual 161, 3) := by decide +kernel
theorem dX9_end_13 : decode cX9_end 13 = .ok (.ifCond .eq 12, 3) := by decide +kernel
theorem dX9_end_16 : decode cX9_end 16 = .ok (.aload_n 0, 1) := by decide +kernel
theorem dX9_end_17 : decode cX9_end 17 = .ok (.getfield 51, 3) := by decide +kernel
theorem dX9_end_20 : decode cX9_end 20 = .ok (.iload_n 1, 1) := by decide +kernel
theorem dX9_end_21 : decode cX9_end 21 = .ok (.iaload, 1) := by decide +kernel
theorem dX9_end_22 : decode cX9_end 22 = .ok (.goto 4, 3) := by decide +kernel
theorem dX9_end_25 : decode cX9_end 25 = .ok (.iconst (-1), 1) := by decide +kernel
theorem dX9_end_26 : decode cX9_end 26 = .ok (.ireturn, 1) := by decide +kernel
theorem dX9_isRested_0 : decode cX9_isRested 0 = .ok (.aload_n 0, 1) := by decide +kernel
theorem dX9_isRested_1 : decode cX9_isRested 1 = .ok (.iload_n 1, 1) := by decide +kernel
theorem dX9_isRested_2 : decode cX9_isRested 2 = .ok (.invokevirtual 273, 3) := by decide +kernel
theorem dX9_isRested_5 : decode cX9_isRested 5 = .ok (.istore_n 3, 1) := by decide +kernel
theorem dX9_isRested_6 : decode cX9_isRested 6 = .ok (.iload_n 3, 1) := by decide +kernel
theorem dX9_isRested_7 : decode cX9_isRested 7 = .ok (.ifCond .lt 15, 3) := by decide +kernel
theorem dX9_isRested_10 : decode cX9_isRested 10 = .ok (.iload_n 2, 1) := by decide +kernel
theorem dX9_isRested_11 : decode cX9_isRested 11 = .ok (.iload_n 3, 1) := by decide +kernel
theorem dX9_isRested_12 : decode cX9_isRested 12 = .ok (.aload_n 0, 1) := by decide +kernel
theorem dX9_isRested_13 : decode cX9_isRested 13 = .ok (.getfield 75, 3) := by decide +kernel
theorem dX9_isRested_16 : decode cX9_isRested 16 = .ok (.iconst 0, 1) := by decide +kernel
theorem dX9_isRested_17 : decode cX9_isRested 17 = .ok (.iaload, 1) := by decide +kernel
theorem dX9_isRested_18 : decode cX9_isRested 18 = .ok (.iadd, 1) := by decide +kernel
theorem dX9_isRested_19 : decode cX9_isRested 19 = .ok (.if_icmp .lt 7, 3) := by decide +kernel
theorem dX9_isRested_22 : decode cX9_isRested 22 = .ok (.iconst 1, 1) := by decide +kernel
theorem dX9_isRested_23 : decode cX9_isRested 23 = .ok (.goto 4, 3) := by decide +kernel
theorem dX9_isRested_26 : decode cX9_isRested 26 = .ok (.iconst 0, 1) := by decide +kernel
theorem dX9_isRested_27 : decode cX9_isRested 27 = .ok (.ireturn, 1) := by decide +kernel
theorem dX9_why_0 : decode cX9_why 0 = .ok (.aload_n 0, 1) := by decide +kernel
theorem dX9_why_1 : decode cX9_why 1 = .ok (.iload_n 1, 1) := by decide +kernel
theorem dX9_why_2 : decode cX9_why 2 = .ok (.invokevirtual 191, 3) := by decide +kernel
theorem dX9_why_5 : decode cX9_why 5 = .ok (.ifCond .ne 5, 3) := by decide +kernel
theorem dX9_why_8 : decode cX9_why 8 = .ok (.iconst 1, 1) := by decide +kernel
theorem dX9_why_9 : decode cX9_why 9 = .ok (.ireturn, 1) := by decide +kernel
theorem dX9_why_10 : decode cX9_why 10 = .ok (.aload_n 0, 1) := by decide +kernel
theorem dX9_why_11 : decode cX9_why 11 = .ok (.iload_n 1, 1) := by decide +kernel
theorem dX9_why_12 : decode cX9_why 12 = .ok (.iconst 0, 1) := by decide +kernel
theorem dX9_why_13 : decode cX9_why 13 = .ok (.invokevirtual 173, 3) := by decide +kernel
theorem dX9_why_16 : decode cX9_why 16 = .ok (.bipush (-2), 2) := by decide +kernel
theorem dX9_why_18 : decode cX9_why 18 = .ok (.if_icmp .eq 14, 3) := by decide +kernel
theorem dX9_why_21 : decode cX9_why 21 = .ok (.aload_n 0, 1) := by decide +kernel
theorem dX9_why_22 : decode cX9_why 22 = .ok (.iload_n 1, 1) := by decide +kernel
theorem dX9_why_23 : decode cX9_why 23 = .ok (.iconst 1, 1) := by decide +kernel
theorem dX9_why_24 : decode cX9_why 24 = .ok (.invokevirtual 173, 3) := by decide +kernel
theorem dX9_why_27 : decode cX9_why 27 = .ok (.bipush (-2), 2) := by decide +kernel
theorem dX9_why_29 : decode cX9_why 29 = .ok (.if_icmp .ne 5, 3) := by decide +kernel
theorem dX9_why_32 : decode cX9_why 32 = .ok (.iconst 2, 1) := by decide +kernel
theorem dX9_why_33 : decode cX9_why 33 = .ok (.ireturn, 1) := by decide +kernel
theorem dX9_why_34 : decode cX9_why 34 = .ok (.aload_n 0, 1) := by decide +kernel
theorem dX9_why_35 : decode cX9_why 35 = .ok (.iload_n 1, 1) := by decide +kernel
theorem dX9_why_36 : decode cX9_why 36 = .ok (.invokevirtual 161, 3) := by decide +kernel
theorem dX9_why_39 : decode cX9_why 39 = .ok (.ifCond .eq 5, 3) := by decide +kernel
theorem dX9_why_42 : decode cX9_why 42 = .ok (.iconst 3, 1) := by decide +kernel
theorem dX9_why_43 : decode cX9_why 43 = .ok (.ireturn, 1) := by decide +kernel
theorem dX9_why_44 : decode cX9_why 44 = .ok (.aload_n 0, 1) := by decide +kernel
theorem dX9_why_45 : decode cX9_why 45 = .ok (.getfield 38, 3) := by decide +kernel
theorem dX9_why_48 : decode cX9_why 48 = .ok (.iload_n 1, 1) := by decide +kernel
theorem dX9_why_49 : decode cX9_why 49 = .ok (.iaload, 1) := by decide +kernel
theorem dX9_why_50 : decode cX9_why 50 = .ok (.ifCond .le 5, 3) := by decide +kernel
theorem dX9_why_53 : decode cX9_why 53 = .ok (.iconst 4, 1) := by decide +kernel
theorem dX9_why_54 : decode cX9_why 54 = .ok (.ireturn, 1) := by decide +kernel
theorem dX9_why_55 : decode cX9_why 55 = .ok (.aload_n 0, 1) := by decide +kernel
theorem dX9_why_56 : decode cX9_why 56 = .ok (.aload_n 0, 1) := by decide +kernel
theorem dX9_why_57 : decode cX9_why 57 = .ok (.iload_n 1, 1) := by decide +kernel
theorem dX9_why_58 : decode cX9_why 58 = .ok (.iconst 0, 1) := by decide +kernel
theorem dX9_why_59 : decode cX9_why 59 = .ok (.invokevirtual 173, 3) := by decide +kernel
theorem dX9_why_62 : decode cX9_why 62 = .ok (.iload_n 2, 1) := by decide +kernel
theorem dX9_why_63 : decode cX9_why 63 = .ok (.invokevirtual 279, 3) := by decide +kernel
theorem dX9_why_66 : decode cX9_why 66 = .ok (.ifCond .ne 5, 3) := by decide +kernel
theorem dX9_why_69 : decode cX9_why 69 = .ok (.iconst 5, 1) := by decide +kernel
theorem dX9_why_70 : decode cX9_why 70 = .ok (.ireturn, 1) := by decide +kernel
theorem dX9_why_71 : decode cX9_why 71 = .ok (.aload_n 0, 1) := by decide +kernel
theorem dX9_why_72 : decode cX9_why 72 = .ok (.aload_n 0, 1) := by decide +kernel
theorem dX9_why_73 : decode cX9_why 73 = .ok (.iload_n 1, 1) := by decide +kernel
theorem dX9_why_74 : decode cX9_why 74 = .ok (.iconst 1, 1) := by decide +kernel
theorem dX9_why_75 : decode cX9_why 75 = .ok (.invokevirtual 173, 3) := by decide +kernel
theorem dX9_why_78 : decode cX9_why 78 = .ok (.iload_n 2, 1) := by decide +kernel
theorem dX9_why_79 : decode cX9_why 79 = .ok (.invokevirtual 279, 3) := by decide +kernel
theorem dX9_why_82 : decode cX9_why 82 = .ok (.ifCond .eq 7, 3) := by decide +kernel
theorem dX9_why_85 : decode cX9_why 85 = .ok (.iconst 0, 1) := by decide +kernel
theorem dX9_why_86 : decode cX9_why 86 = .ok (.goto 5, 3) := by decide +kernel
theorem dX9_why_89 : decode cX9_why 89 = .ok (.bipush 6, 2) := by decide +kernel
theorem dX9_why_91 : decode cX9_why 91 = .ok (.ireturn, 1) := by decide +kernel
theorem dX9_worth_0 : decode cX9_worth 0 = .ok (.iload_n 1, 1) := by decide +kernel
theorem dX9_worth_1 : decode cX9_worth 1 = .ok (.invokestatic 244, 3) := by decide +kernel
theorem dX9_worth_4 : decode cX9_worth 4 = .ok (.ifCond .eq 14, 3) := by decide +kernel
theorem dX9_worth_7 : decode cX9_worth 7 = .ok (.iload_n 2, 1) := by decide +kernel
theorem dX9_worth_8 : decode cX9_worth 8 = .ok (.iconst 0, 1) := by decide +kernel
theorem dX9_worth_9 : decode cX9_worth 9 = .ok (.sipush 999, 3) := by decide +kernel
theorem dX9_worth_12 : decode cX9_worth 12 = .ok (.invokestatic 111, 3) := by decide +kernel
theorem dX9_worth_15 : decode cX9_worth 15 = .ok (.ifCond .ne 5, 3) := by decide +kernel
theorem dX9_worth_18 : decode cX9_worth 18 = .ok (.iconst (-1), 1) := by decide +kernel
theorem dX9_worth_19 : decode cX9_worth 19 = .ok (.ireturn, 1) := by decide +kernel
theorem dX9_worth_20 : decode cX9_worth 20 = .ok (.aload_n 0, 1) := by decide +kernel
theorem dX9_worth_21 : decode cX9_worth 21 = .ok (.getfield 54, 3) := by decide +kernel
theorem dX9_worth_24 : decode cX9_worth 24 = .ok (.iload_n 1, 1) := by decide +kernel
theorem dX9_worth_25 : decode cX9_worth 25 = .ok (.iload_n 2, 1) := by decide +kernel
theorem dX9_worth_26 : decode cX9_worth 26 = .ok (.iastore, 1) := by decide +kernel
theorem dX9_worth_27 : decode cX9_worth 27 = .ok (.iconst 1, 1) := by decide +kernel
theorem dX9_worth_28 : decode cX9_worth 28 = .ok (.ireturn, 1) := by decide +kernel
theorem dX9_fitted_0 : decode cX9_fitted 0 = .ok (.iload_n 1, 1) := by decide +kernel
theorem dX9_fitted_1 : decode cX9_fitted 1 = .ok (.invokestatic 234, 3) := by decide +kernel
theorem dX9_fitted_4 : decode cX9_fitted 4 = .ok (.ifCond .ne 5, 3) := by decide +kernel
theorem dX9_fitted_7 : decode cX9_fitted 7 = .ok (.iconst (-1), 1) := by decide +kernel
theorem dX9_fitted_8 : decode cX9_fitted 8 = .ok (.ireturn, 1) := by decide +kernel
theorem dX9_fitted_9 : decode cX9_fitted 9 = .ok (.iconst 0, 1) := by decide +kernel
theorem dX9_fitted_10 : decode cX9_fitted 10 = .ok (.istore_n 3, 1) := by decide +kernel
theorem dX9_fitted_11 : decode cX9_fitted 11 = .ok (.iload_n 3, 1) := by decide +kernel
theorem dX9_fitted_12 : decode cX9_fitted 12 = .ok (.bipush 40, 2) := by decide +kernel
theorem dX9_fitted_14 : decode cX9_fitted 14 = .ok (.if_icmp .ge 16, 3) := by decide +kernel
theorem dX9_fitted_17 : decode cX9_fitted 17 = .ok (.aload_n 0, 1) := by decide +kernel
theorem dX9_fitted_18 : decode cX9_fitted 18 = .ok (.getfield 102, 3) := by decide +kernel
theorem dX9_fitted_21 : decode cX9_fitted 21 = .ok (.iload_n 3, 1) := by decide +kernel
theorem dX9_fitted_22 : decode cX9_fitted 22 = .ok (.iconst 0, 1) := by decide +kernel
theorem dX9_fitted_23 : decode cX9_fitted 23 = .ok (.bastore, 1) := by decide +kernel
theorem dX9_fitted_24 : decode cX9_fitted 24 = .ok (.iinc 3 1, 3) := by decide +kernel
theorem dX9_fitted_27 : decode cX9_fitted 27 = .ok (.goto (-16), 3) := by decide +kernel
theorem dX9_fitted_30 : decode cX9_fitted 30 = .ok (.iconst 0, 1) := by decide +kernel
theorem dX9_fitted_31 : decode cX9_fitted 31 = .ok (.istore_n 3, 1) := by decide +kernel
theorem dX9_fitted_32 : decode cX9_fitted 32 = .ok (.iload_n 3, 1) := by decide +kernel
theorem dX9_fitted_33 : decode cX9_fitted 33 = .ok (.bipush 64, 2) := by decide +kernel
theorem dX9_fitted_35 : decode cX9_fitted 35 = .ok (.if_icmp .ge 29, 3) := by decide +kernel
theorem dX9_fitted_38 : decode cX9_fitted 38 = .ok (.aload_n 0, 1) := by decide +kernel
theorem dX9_fitted_39 : decode cX9_fitted 39 = .ok (.getfield 105, 3) := by decide +kernel
theorem dX9_fitted_42 : decode cX9_fitted 42 = .ok (.iload_n 3, 1) := by decide +kernel
theorem dX9_fitted_43 : decode cX9_fitted 43 = .ok (.aload_n 0, 1) := by decide +kernel
theorem dX9_fitted_44 : decode cX9_fitted 44 = .ok (.iload_n 3, 1) := by decide +kernel
theorem dX9_fitted_45 : decode cX9_fitted 45 = .ok (.iload_n 2, 1) := by decide +kernel
theorem dX9_fitted_46 : decode cX9_fitted 46 = .ok (.invokevirtual 282, 3) := by decide +kernel
theorem dX9_fitted_49 : decode cX9_fitted 49 = .ok (.ifCond .eq 7, 3) := by decide +kernel
theorem dX9_fitted_52 : decode cX9_fitted 52 = .ok (.iconst 1, 1) := by decide +kernel
theorem dX9_fitted_53 : decode cX9_fitted 53 = .ok (.goto 4, 3) := by decide +kernel
theorem dX9_fitted_56 : decode cX9_fitted 56 = .ok (.iconst 0, 1) := by decide +kernel
theorem dX9_fitted_57 : decode cX9_fitted 57 = .ok (.bastore, 1) := by decide +kernel
theorem dX9_fitted_58 : decode cX9_fitted 58 = .ok (.iinc 3 1, 3) := by decide +kernel
theorem dX9_fitted_61 : decode cX9_fitted 61 = .ok (.goto (-29), 3) := by decide +kernel
theorem dX9_fitted_64 : decode cX9_fitted 64 = .ok (.iconst 0, 1) := by decide +kernel
theorem dX9_fitted_65 : decode cX9_fitted 65 = .ok (.istore_n 3, 1) := by decide +kernel
theorem dX9_fitted_66 : decode cX9_fitted 66 = .ok (.iload_n 3, 1) := by decide +kernel
theorem dX9_fitted_67 : decode cX9_fitted 67 = .ok (.bipush 6, 2) := by decide +kernel
theorem dX9_fitted_69 : decode cX9_fitted 69 = .ok (.if_icmp .ge 36, 3) := by decide +kernel
theorem dX9_fitted_72 : decode cX9_fitted 72 = .ok (.aload_n 0, 1) := by decide +kernel
theorem dX9_fitted_73 : decode cX9_fitted 73 = .ok (.getfield 108, 3) := by decide +kernel
theorem dX9_fitted_76 : decode cX9_fitted 76 = .ok (.iload_n 3, 1) := by decide +kernel
theorem dX9_fitted_77 : decode cX9_fitted 77 = .ok (.aload_n 0, 1) := by decide +kernel
theorem dX9_fitted_78 : decode cX9_fitted 78 = .ok (.getfield 240, 3) := by decide +kernel
theorem dX9_fitted_81 : decode cX9_fitted 81 = .ok (.ifCond .eq 16, 3) := by decide +kernel
theorem dX9_fitted_84 : decode cX9_fitted 84 = .ok (.aload_n 0, 1) := by decide +kernel
theorem dX9_fitted_85 : decode cX9_fitted 85 = .ok (.getfield 57, 3) := by decide +kernel
theorem dX9_fitted_88 : decode cX9_fitted 88 = .ok (.iload_n 3, 1) := by decide +kernel
theorem dX9_fitted_89 : decode cX9_fitted 89 = .ok (.baload, 1) := by decide +kernel
theorem dX9_fitted_90 : decode cX9_fitted 90 = .ok (.ifCond .ne 7, 3) := by decide +kernel
theorem dX9_fitted_93 : decode cX9_fitted 93 = .ok (.iconst 1, 1) := by decide +kernel
theorem dX9_fitted_94 : decode cX9_fitted 94 = .ok (.goto 4, 3) := by decide +kernel
theorem dX9_fitted_97 : decode cX9_fitted 97 = .ok (.iconst 0, 1) := by decide +kernel
theorem dX9_fitted_98 : decode cX9_fitted 98 = .ok (.bastore, 1) := by decide +kernel
theorem dX9_fitted_99 : decode cX9_fitted 99 = .ok (.iinc 3 1, 3) := by decide +kernel
theorem dX9_fitted_102 : decode cX9_fitted 102 = .ok (.goto (-36), 3) := by decide +kernel
theorem dX9_fitted_105 : decode cX9_fitted 105 = .ok (.aload_n 0, 1) := by decide +kernel
theorem dX9_fitted_106 : decode cX9_fitted 106 = .ok (.invokevirtual 285, 3) := by decide +kernel
theorem dX9_fitted_109 : decode cX9_fitted 109 = .ok (.istore_n 3, 1) := by decide +kernel
theorem dX9_fitted_110 : decode cX9_fitted 110 = .ok (.iload_n 3, 1) := by decide +kernel
theorem dX9_fitted_111 : decode cX9_fitted 111 = .ok (.ifCond .lt 102, 3) := by decide +kernel
theorem dX9_fitted_114 : decode cX9_fitted 114 = .ok (.aload_n 0, 1) := by decide +kernel
theorem dX9_fitted_115 : decode cX9_fitted 115 = .ok (.getfield 105, 3) := by decide +kernel
theorem dX9_fitted_118 : decode cX9_fitted 118 = .ok (.iload_n 3, 1) := by decide +kernel
theorem dX9_fitted_119 : decode cX9_fitted 119 = .ok (.iconst 1, 1) := by decide +kernel
theorem dX9_fitted_120 : decode cX9_fitted 120 = .ok (.bastore, 1) := by decide +kernel
theorem dX9_fitted_121 : decode cX9_fitted 121 = .ok (.aload_n 0, 1) := by decide +kernel
theorem dX9_fitted_122 : decode cX9_fitted 122 = .ok (.getfield 102, 3) := by decide +kernel
theorem dX9_fitted_125 : decode cX9_fitted 125 = .ok (.aload_n 0, 1) := by decide +kernel
theorem dX9_fitted_126 : decode cX9_fitted 126 = .ok (.iload_n 3, 1) := by decide +kernel
theorem dX9_fitted_127 : decode cX9_fitted 127 = .ok (.iconst 0, 1) := by decide +kernel
theorem dX9_fitted_128 : decode cX9_fitted 128 = .ok (.invokevirtual 173, 3) := by decide +kernel
theorem dX9_fitted_131 : decode cX9_fitted 131 = .ok (.baload, 1) := by decide +kernel
theorem dX9_fitted_132 : decode cX9_fitted 132 = .ok (.ifCond .ne 73, 3) := by decide +kernel
theorem dX9_fitted_135 : decode cX9_fitted 135 = .ok (.aload_n 0, 1) := by decide +kernel
theorem dX9_fitted_136 : decode cX9_fitted 136 = .ok (.getfield 102, 3) := by decide +kernel
theorem dX9_fitted_139 : decode cX9_fitted 139 = .ok (.aload_n 0, 1) := by decide +kernel
