theorem dX6_gather_70 : decode cX6_gather 70 = .ok (.invokevirtual 34, 3) := by decide +kernel
theorem dX6_gather_73 : decode cX6_gather 73 = .ok (.aload_n 0, 1) := by decide +kernel
theorem dX6_gather_74 : decode cX6_gather 74 = .ok (.aload_n 3, 1) := by decide +kernel
theorem dX6_gather_75 : decode cX6_gather 75 = .ok (.iload 4, 2) := by decide +kernel
theorem dX6_gather_77 : decode cX6_gather 77 = .ok (.iconst 1, 1) := by decide +kernel
theorem dX6_gather_78 : decode cX6_gather 78 = .ok (.invokevirtual 30, 3) := by decide +kernel
theorem dX6_gather_81 : decode cX6_gather 81 = .ok (.aload_n 3, 1) := by decide +kernel
theorem dX6_gather_82 : decode cX6_gather 82 = .ok (.getfield 25, 3) := by decide +kernel
theorem dX6_gather_85 : decode cX6_gather 85 = .ok (.iload 4, 2) := by decide +kernel
theorem dX6_gather_87 : decode cX6_gather 87 = .ok (.iaload, 1) := by decide +kernel
theorem dX6_gather_88 : decode cX6_gather 88 = .ok (.invokevirtual 34, 3) := by decide +kernel
theorem dX6_gather_91 : decode cX6_gather 91 = .ok (.iinc 2 1, 3) := by decide +kernel
theorem dX6_gather_94 : decode cX6_gather 94 = .ok (.goto (-71), 3) := by decide +kernel
theorem dX6_gather_97 : decode cX6_gather 97 = .ok (.return_, 1) := by decide +kernel
theorem dX6_note_0 : decode cX6_note 0 = .ok (.iload_n 1, 1) := by decide +kernel
theorem dX6_note_1 : decode cX6_note 1 = .ok (.invokestatic 38, 3) := by decide +kernel
theorem dX6_note_4 : decode cX6_note 4 = .ok (.ifCond .eq 19, 3) := by decide +kernel
theorem dX6_note_7 : decode cX6_note 7 = .ok (.aload_n 0, 1) := by decide +kernel
theorem dX6_note_8 : decode cX6_note 8 = .ok (.getfield 9, 3) := by decide +kernel
theorem dX6_note_11 : decode cX6_note 11 = .ok (.iload_n 1, 1) := by decide +kernel
theorem dX6_note_12 : decode cX6_note 12 = .ok (.aload_n 0, 1) := by decide +kernel
theorem dX6_note_13 : decode cX6_note 13 = .ok (.getfield 9, 3) := by decide +kernel
theorem dX6_note_16 : decode cX6_note 16 = .ok (.iload_n 1, 1) := by decide +kernel
theorem dX6_note_17 : decode cX6_note 17 = .ok (.iaload, 1) := by decide +kernel
theorem dX6_note_18 : decode cX6_note 18 = .ok (.iload_n 2, 1) := by decide +kernel
theorem dX6_note_19 : decode cX6_note 19 = .ok (.invokestatic 42, 3) := by decide +kernel
theorem dX6_note_22 : decode cX6_note 22 = .ok (.iastore, 1) := by decide +kernel
theorem dX6_note_23 : decode cX6_note 23 = .ok (.return_, 1) := by decide +kernel
theorem dX6_readyAt_0 : decode cX6_readyAt 0 = .ok (.iload_n 1, 1) := by decide +kernel
theorem dX6_readyAt_1 : decode cX6_readyAt 1 = .ok (.invokestatic 38, 3) := by decide +kernel
theorem dX6_readyAt_4 : decode cX6_readyAt 4 = .ok (.ifCond .eq 12, 3) := by decide +kernel
theorem dX6_readyAt_7 : decode cX6_readyAt 7 = .ok (.aload_n 0, 1) := by decide +kernel
theorem dX6_readyAt_8 : decode cX6_readyAt 8 = .ok (.getfield 9, 3) := by decide +kernel
theorem dX6_readyAt_11 : decode cX6_readyAt 11 = .ok (.iload_n 1, 1) := by decide +kernel
theorem dX6_readyAt_12 : decode cX6_readyAt 12 = .ok (.iaload, 1) := by decide +kernel
theorem dX6_readyAt_13 : decode cX6_readyAt 13 = .ok (.ifCond .ge 6, 3) := by decide +kernel
theorem dX6_readyAt_16 : decode cX6_readyAt 16 = .ok (.ldc 47, 2) := by decide +kernel
theorem dX6_readyAt_18 : decode cX6_readyAt 18 = .ok (.ireturn, 1) := by decide +kernel
theorem dX6_readyAt_19 : decode cX6_readyAt 19 = .ok (.aload_n 0, 1) := by decide +kernel
theorem dX6_readyAt_20 : decode cX6_readyAt 20 = .ok (.getfield 9, 3) := by decide +kernel
theorem dX6_readyAt_23 : decode cX6_readyAt 23 = .ok (.iload_n 1, 1) := by decide +kernel
theorem dX6_readyAt_24 : decode cX6_readyAt 24 = .ok (.iaload, 1) := by decide +kernel
theorem dX6_readyAt_25 : decode cX6_readyAt 25 = .ok (.iload_n 2, 1) := by decide +kernel
theorem dX6_readyAt_26 : decode cX6_readyAt 26 = .ok (.iadd, 1) := by decide +kernel
theorem dX6_readyAt_27 : decode cX6_readyAt 27 = .ok (.ireturn, 1) := by decide +kernel
theorem dX6_hindrance_0 : decode cX6_hindrance 0 = .ok (.aload_n 1, 1) := by decide +kernel
theorem dX6_hindrance_1 : decode cX6_hindrance 1 = .ok (.iload_n 2, 1) := by decide +kernel
theorem dX6_hindrance_2 : decode cX6_hindrance 2 = .ok (.invokevirtual 15, 3) := by decide +kernel
theorem dX6_hindrance_5 : decode cX6_hindrance 5 = .ok (.astore 4, 2) := by decide +kernel
theorem dX6_hindrance_7 : decode cX6_hindrance 7 = .ok (.aload 4, 2) := by decide +kernel
theorem dX6_hindrance_9 : decode cX6_hindrance 9 = .ok (.ifnonnull 5, 3) := by decide +kernel
theorem dX6_hindrance_12 : decode cX6_hindrance 12 = .ok (.iconst 1, 1) := by decide +kernel
theorem dX6_hindrance_13 : decode cX6_hindrance 13 = .ok (.ireturn, 1) := by decide +kernel
theorem dX6_hindrance_14 : decode cX6_hindrance 14 = .ok (.iload_n 2, 1) := by decide +kernel
theorem dX6_hindrance_15 : decode cX6_hindrance 15 = .ok (.invokestatic 21, 3) := by decide +kernel
theorem dX6_hindrance_18 : decode cX6_hindrance 18 = .ok (.istore 5, 2) := by decide +kernel
theorem dX6_hindrance_20 : decode cX6_hindrance 20 = .ok (.aload_n 1, 1) := by decide +kernel
theorem dX6_hindrance_21 : decode cX6_hindrance 21 = .ok (.getfield 48, 3) := by decide +kernel
theorem dX6_hindrance_24 : decode cX6_hindrance 24 = .ok (.iconst 0, 1) := by decide +kernel
theorem dX6_hindrance_25 : decode cX6_hindrance 25 = .ok (.iaload, 1) := by decide +kernel
theorem dX6_hindrance_26 : decode cX6_hindrance 26 = .ok (.istore 6, 2) := by decide +kernel
theorem dX6_hindrance_28 : decode cX6_hindrance 28 = .ok (.aload 4, 2) := by decide +kernel
theorem dX6_hindrance_30 : decode cX6_hindrance 30 = .ok (.iload 5, 2) := by decide +kernel
theorem dX6_hindrance_32 : decode cX6_hindrance 32 = .ok (.invokevirtual 51, 3) := by decide +kernel
theorem dX6_hindrance_35 : decode cX6_hindrance 35 = .ok (.ifCond .ne 5, 3) := by decide +kernel
theorem dX6_hindrance_38 : decode cX6_hindrance 38 = .ok (.iconst 2, 1) := by decide +kernel
theorem dX6_hindrance_39 : decode cX6_hindrance 39 = .ok (.ireturn, 1) := by decide +kernel
theorem dX6_hindrance_40 : decode cX6_hindrance 40 = .ok (.aload 4, 2) := by decide +kernel
theorem dX6_hindrance_42 : decode cX6_hindrance 42 = .ok (.getfield 54, 3) := by decide +kernel
theorem dX6_hindrance_45 : decode cX6_hindrance 45 = .ok (.iload 5, 2) := by decide +kernel
theorem dX6_hindrance_47 : decode cX6_hindrance 47 = .ok (.iaload, 1) := by decide +kernel
theorem dX6_hindrance_48 : decode cX6_hindrance 48 = .ok (.ifCond .eq 5, 3) := by decide +kernel
theorem dX6_hindrance_51 : decode cX6_hindrance 51 = .ok (.iconst 3, 1) := by decide +kernel
theorem dX6_hindrance_52 : decode cX6_hindrance 52 = .ok (.ireturn, 1) := by decide +kernel
theorem dX6_hindrance_53 : decode cX6_hindrance 53 = .ok (.aload 4, 2) := by decide +kernel
theorem dX6_hindrance_55 : decode cX6_hindrance 55 = .ok (.getfield 57, 3) := by decide +kernel
theorem dX6_hindrance_58 : decode cX6_hindrance 58 = .ok (.iload 5, 2) := by decide +kernel
theorem dX6_hindrance_60 : decode cX6_hindrance 60 = .ok (.iaload, 1) := by decide +kernel
theorem dX6_hindrance_61 : decode cX6_hindrance 61 = .ok (.ifCond .le 5, 3) := by decide +kernel
theorem dX6_hindrance_64 : decode cX6_hindrance 64 = .ok (.iconst 4, 1) := by decide +kernel
theorem dX6_hindrance_65 : decode cX6_hindrance 65 = .ok (.ireturn, 1) := by decide +kernel
theorem dX6_hindrance_66 : decode cX6_hindrance 66 = .ok (.iload_n 3, 1) := by decide +kernel
theorem dX6_hindrance_67 : decode cX6_hindrance 67 = .ok (.aload_n 0, 1) := by decide +kernel
theorem dX6_hindrance_68 : decode cX6_hindrance 68 = .ok (.aload 4, 2) := by decide +kernel
theorem dX6_hindrance_70 : decode cX6_hindrance 70 = .ok (.iload 5, 2) := by decide +kernel
theorem dX6_hindrance_72 : decode cX6_hindrance 72 = .ok (.iconst 0, 1) := by decide +kernel
theorem dX6_hindrance_73 : decode cX6_hindrance 73 = .ok (.invokevirtual 30, 3) := by decide +kernel
theorem dX6_hindrance_76 : decode cX6_hindrance 76 = .ok (.iload 6, 2) := by decide +kernel
theorem dX6_hindrance_78 : decode cX6_hindrance 78 = .ok (.invokevirtual 60, 3) := by decide +kernel
theorem dX6_hindrance_81 : decode cX6_hindrance 81 = .ok (.if_icmp .ge 5, 3) := by decide +kernel
theorem dX6_hindrance_84 : decode cX6_hindrance 84 = .ok (.iconst 5, 1) := by decide +kernel
theorem dX6_hindrance_85 : decode cX6_hindrance 85 = .ok (.ireturn, 1) := by decide +kernel
theorem dX6_hindrance_86 : decode cX6_hindrance 86 = .ok (.iload_n 3, 1) := by decide +kernel
theorem dX6_hindrance_87 : decode cX6_hindrance 87 = .ok (.aload_n 0, 1) := by decide +kernel
theorem dX6_hindrance_88 : decode cX6_hindrance 88 = .ok (.aload 4, 2) := by decide +kernel
theorem dX6_hindrance_90 : decode cX6_hindrance 90 = .ok (.iload 5, 2) := by decide +kernel
theorem dX6_hindrance_92 : decode cX6_hindrance 92 = .ok (.iconst 1, 1) := by decide +kernel
theorem dX6_hindrance_93 : decode cX6_hindrance 93 = .ok (.invokevirtual 30, 3) := by decide +kernel
theorem dX6_hindrance_96 : decode cX6_hindrance 96 = .ok (.iload 6, 2) := by decide +kernel
theorem dX6_hindrance_98 : decode cX6_hindrance 98 = .ok (.invokevirtual 60, 3) := by decide +kernel
theorem dX6_hindrance_101 : decode cX6_hindrance 101 = .ok (.if_icmp .ge 8, 3) := by decide +kernel
theorem dX6_hindrance_104 : decode cX6_hindrance 104 = .ok (.bipush 6, 2) := by decide +kernel
theorem dX6_hindrance_106 : decode cX6_hindrance 106 = .ok (.goto 4, 3) := by decide +kernel
theorem dX6_hindrance_109 : decode cX6_hindrance 109 = .ok (.iconst 0, 1) := by decide +kernel
theorem dX6_hindrance_110 : decode cX6_hindrance 110 = .ok (.ireturn, 1) := by decide +kernel
theorem dX7_init_0 : decode cX7_init 0 = .ok (.aload_n 0, 1) := by decide +kernel
theorem dX7_init_1 : decode cX7_init 1 = .ok (.invokespecial 3, 3) := by decide +kernel
theorem dX7_init_4 : decode cX7_init 4 = .ok (.aload_n 0, 1) := by decide +kernel
theorem dX7_init_5 : decode cX7_init 5 = .ok (.iconst 2, 1) := by decide +kernel
theorem dX7_init_6 : decode cX7_init 6 = .ok (.newarray .int, 2) := by decide +kernel
theorem dX7_init_8 : decode cX7_init 8 = .ok (.putfield 9, 3) := by decide +kernel
theorem dX7_init_11 : decode cX7_init 11 = .ok (.aload_n 0, 1) := by decide +kernel
theorem dX7_init_12 : decode cX7_init 12 = .ok (.iconst 2, 1) := by decide +kernel
theorem dX7_init_13 : decode cX7_init 13 = .ok (.newarray .int, 2) := by decide +kernel
theorem dX7_init_15 : decode cX7_init 15 = .ok (.putfield 15, 3) := by decide +kernel
theorem dX7_init_18 : decode cX7_init 18 = .ok (.aload_n 0, 1) := by decide +kernel
theorem dX7_init_19 : decode cX7_init 19 = .ok (.iconst 2, 1) := by decide +kernel
theorem dX7_init_20 : decode cX7_init 20 = .ok (.newarray .int, 2) := by decide +kernel
theorem dX7_init_22 : decode cX7_init 22 = .ok (.putfield 18, 3) := by decide +kernel
theorem dX7_init_25 : decode cX7_init 25 = .ok (.aload_n 0, 1) := by decide +kernel
theorem dX7_init_26 : decode cX7_init 26 = .ok (.bipush 10, 2) := by decide +kernel
theorem dX7_init_28 : decode cX7_init 28 = .ok (.newarray .int, 2) := by decide +kernel
theorem dX7_init_30 : decode cX7_init 30 = .ok (.putfield 21, 3) := by decide +kernel
theorem dX7_init_33 : decode cX7_init 33 = .ok (.return_, 1) := by decide +kernel
theorem dX7_replay_0 : decode cX7_replay 0 = .ok (.iconst 0, 1) := by decide +kernel
theorem dX7_replay_1 : decode cX7_replay 1 = .ok (.istore_n 3, 1) := by decide +kernel
theorem dX7_replay_2 : decode cX7_replay 2 = .ok (.iload_n 3, 1) := by decide +kernel
theorem dX7_replay_3 : decode cX7_replay 3 = .ok (.iconst 2, 1) := by decide +kernel
theorem dX7_replay_4 : decode cX7_replay 4 = .ok (.if_icmp .ge 30, 3) := by decide +kernel
theorem dX7_replay_7 : decode cX7_replay 7 = .ok (.aload_n 0, 1) := by decide +kernel
theorem dX7_replay_8 : decode cX7_replay 8 = .ok (.getfield 9, 3) := by decide +kernel
theorem dX7_replay_11 : decode cX7_replay 11 = .ok (.iload_n 3, 1) := by decide +kernel
theorem dX7_replay_12 : decode cX7_replay 12 = .ok (.iconst 0, 1) := by decide +kernel
theorem dX7_replay_13 : decode cX7_replay 13 = .ok (.iastore, 1) := by decide +kernel
theorem dX7_replay_14 : decode cX7_replay 14 = .ok (.aload_n 0, 1) := by decide +kernel
theorem dX7_replay_15 : decode cX7_replay 15 = .ok (.getfield 15, 3) := by decide +kernel
theorem dX7_replay_18 : decode cX7_replay 18 = .ok (.iload_n 3, 1) := by decide +kernel
theorem dX7_replay_19 : decode cX7_replay 19 = .ok (.iconst 0, 1) := by decide +kernel
theorem dX7_replay_20 : decode cX7_replay 20 = .ok (.iastore, 1) := by decide +kernel
theorem dX7_replay_21 : decode cX7_replay 21 = .ok (.aload_n 0, 1) := by decide +kernel
theorem dX7_replay_22 : decode cX7_replay 22 = .ok (.getfield 18, 3) := by decide +kernel
theorem dX7_replay_25 : decode cX7_replay 25 = .ok (.iload_n 3, 1) := by decide +kernel
theorem dX7_replay_26 : decode cX7_replay 26 = .ok (.iconst 0, 1) := by decide +kernel
theorem dX7_replay_27 : decode cX7_replay 27 = .ok (.iastore, 1) := by decide +kernel
theorem dX7_replay_28 : decode cX7_replay 28 = .ok (.iinc 3 1, 3) := by decide +kernel
theorem dX7_replay_31 : decode cX7_replay 31 = .ok (.goto (-29), 3) := by decide +kernel
theorem dX7_replay_34 : decode cX7_replay 34 = .ok (.aload_n 0, 1) := by decide +kernel
theorem dX7_replay_35 : decode cX7_replay 35 = .ok (.iconst 0, 1) := by decide +kernel
theorem dX7_replay_36 : decode cX7_replay 36 = .ok (.putfield 24, 3) := by decide +kernel
theorem dX7_replay_39 : decode cX7_replay 39 = .ok (.aload_n 0, 1) := by decide +kernel
theorem dX7_replay_40 : decode cX7_replay 40 = .ok (.iconst 0, 1) := by decide +kernel
theorem dX7_replay_41 : decode cX7_replay 41 = .ok (.putfield 28, 3) := by decide +kernel
theorem dX7_replay_44 : decode cX7_replay 44 = .ok (.aload_n 0, 1) := by decide +kernel
theorem dX7_replay_45 : decode cX7_replay 45 = .ok (.aload_n 1, 1) := by decide +kernel
theorem dX7_replay_46 : decode cX7_replay 46 = .ok (.getfield 31, 3) := by decide +kernel
theorem dX7_replay_49 : decode cX7_replay 49 = .ok (.putfield 36, 3) := by decide +kernel
theorem dX7_replay_52 : decode cX7_replay 52 = .ok (.iconst 0, 1) := by decide +kernel
theorem dX7_replay_53 : decode cX7_replay 53 = .ok (.istore_n 3, 1) := by decide +kernel
theorem dX7_replay_54 : decode cX7_replay 54 = .ok (.iload_n 3, 1) := by decide +kernel
theorem dX7_replay_55 : decode cX7_replay 55 = .ok (.aload_n 1, 1) := by decide +kernel
theorem dX7_replay_56 : decode cX7_replay 56 = .ok (.getfield 37, 3) := by decide +kernel
theorem dX7_replay_59 : decode cX7_replay 59 = .ok (.iload_n 2, 1) := by decide +kernel
theorem dX7_replay_60 : decode cX7_replay 60 = .ok (.iaload, 1) := by decide +kernel
theorem dX7_replay_61 : decode cX7_replay 61 = .ok (.if_icmp .ge 20, 3) := by decide +kernel
theorem dX7_replay_64 : decode cX7_replay 64 = .ok (.aload_n 0, 1) := by decide +kernel
theorem dX7_replay_65 : decode cX7_replay 65 = .ok (.aload_n 1, 1) := by decide +kernel
theorem dX7_replay_66 : decode cX7_replay 66 = .ok (.iload_n 2, 1) := by decide +kernel
theorem dX7_replay_67 : decode cX7_replay 67 = .ok (.iload_n 3, 1) := by decide +kernel
theorem dX7_replay_68 : decode cX7_replay 68 = .ok (.invokevirtual 38, 3) := by decide +kernel
theorem dX7_replay_71 : decode cX7_replay 71 = .ok (.invokevirtual 42, 3) := by decide +kernel
theorem dX7_replay_74 : decode cX7_replay 74 = .ok (.pop, 1) := by decide +kernel
theorem dX7_replay_75 : decode cX7_replay 75 = .ok (.iinc 3 1, 3) := by decide +kernel
theorem dX7_replay_78 : decode cX7_replay 78 = .ok (.goto (-24), 3) := by decide +kernel
theorem dX7_replay_81 : decode cX7_replay 81 = .ok (.return_, 1) := by decide +kernel
theorem dX7_take_0 : decode cX7_take 0 = .ok (.aload_n 0, 1) := by decide +kernel
theorem dX7_take_1 : decode cX7_take 1 = .ok (.invokevirtual 46, 3) := by decide +kernel
theorem dX7_take_4 : decode cX7_take 4 = .ok (.istore_n 2, 1) := by decide +kernel
theorem dX7_take_5 : decode cX7_take 5 = .ok (.aload_n 0, 1) := by decide +kernel
theorem dX7_take_6 : decode cX7_take 6 = .ok (.getfield 9, 3) := by decide +kernel
theorem dX7_take_9 : decode cX7_take 9 = .ok (.iload_n 1, 1) := by decide +kernel
theorem dX7_take_10 : decode cX7_take 10 = .ok (.dup2, 1) := by decide +kernel
theorem dX7_take_11 : decode cX7_take 11 = .ok (.iaload, 1) := by decide +kernel
theorem dX7_take_12 : decode cX7_take 12 = .ok (.iconst 1, 1) := by decide +kernel
theorem dX7_take_13 : decode cX7_take 13 = .ok (.iadd, 1) := by decide +kernel
theorem dX7_take_14 : decode cX7_take 14 = .ok (.iastore, 1) := by decide +kernel
theorem dX7_take_15 : decode cX7_take 15 = .ok (.aload_n 0, 1) := by decide +kernel
theorem dX7_take_16 : decode cX7_take 16 = .ok (.getfield 9, 3) := by decide +kernel
theorem dX7_take_19 : decode cX7_take 19 = .ok (.iload_n 1, 1) := by decide +kernel
theorem dX7_take_20 : decode cX7_take 20 = .ok (.iaload, 1) := by decide +kernel
theorem dX7_take_21 : decode cX7_take 21 = .ok (.iload_n 2, 1) := by decide +kernel
theorem dX7_take_22 : decode cX7_take 22 = .ok (.ifCond .eq 8, 3) := by decide +kernel
theorem dX7_take_25 : decode cX7_take 25 = .ok (.bipush 7, 2) := by decide +kernel
theorem dX7_take_27 : decode cX7_take 27 = .ok (.goto 4, 3) := by decide +kernel
theorem dX7_take_30 : decode cX7_take 30 = .ok (.iconst 4, 1) := by decide +kernel
theorem dX7_take_31 : decode cX7_take 31 = .ok (.if_icmp .lt 22, 3) := by decide +kernel
theorem dX7_take_34 : decode cX7_take 34 = .ok (.aload_n 0, 1) := by decide +kernel
theorem dX7_take_35 : decode cX7_take 35 = .ok (.getfield 9, 3) := by decide +kernel
theorem dX7_take_38 : decode cX7_take 38 = .ok (.iload_n 1, 1) := by decide +kernel
theorem dX7_take_39 : decode cX7_take 39 = .ok (.iaload, 1) := by decide +kernel
theorem dX7_take_40 : decode cX7_take 40 = .ok (.aload_n 0, 1) := by decide +kernel
theorem dX7_take_41 : decode cX7_take 41 = .ok (.getfield 9, 3) := by decide +kernel
theorem dX7_take_44 : decode cX7_take 44 = .ok (.iconst 1, 1) := by decide +kernel
theorem dX7_take_45 : decode cX7_take 45 = .ok (.iload_n 1, 1) := by decide +kernel
theorem dX7_take_46 : decode cX7_take 46 = .ok (.isub, 1) := by decide +kernel
theorem dX7_take_47 : decode cX7_take 47 = .ok (.iaload, 1) := by decide +kernel
theorem dX7_take_48 : decode cX7_take 48 = .ok (.isub, 1) := by decide +kernel
theorem dX7_take_49 : decode cX7_take 49 = .ok (.iconst 2, 1) := by decide +kernel
theorem dX7_take_50 : decode cX7_take 50 = .ok (.if_icmp .ge 38, 3) := by decide +kernel
theorem dX7_take_53 : decode cX7_take 53 = .ok (.iload_n 2, 1) := by decide +kernel
theorem dX7_take_54 : decode cX7_take 54 = .ok (.ifCond .eq 32, 3) := by decide +kernel
theorem dX7_take_57 : decode cX7_take 57 = .ok (.aload_n 0, 1) := by decide +kernel
theorem dX7_take_58 : decode cX7_take 58 = .ok (.getfield 9, 3) := by decide +kernel
theorem dX7_take_61 : decode cX7_take 61 = .ok (.iconst 0, 1) := by decide +kernel
theorem dX7_take_62 : decode cX7_take 62 = .ok (.iaload, 1) := by decide +kernel
theorem dX7_take_63 : decode cX7_take 63 = .ok (.aload_n 0, 1) := by decide +kernel
theorem dX7_take_64 : decode cX7_take 64 = .ok (.getfield 9, 3) := by decide +kernel
theorem dX7_take_67 : decode cX7_take 67 = .ok (.iconst 1, 1) := by decide +kernel
theorem dX7_take_68 : decode cX7_take 68 = .ok (.iaload, 1) := by decide +kernel
theorem dX7_take_69 : decode cX7_take 69 = .ok (.iadd, 1) := by decide +kernel
theorem dX7_take_70 : decode cX7_take 70 = .ok (.bipush 6, 2) := by decide +kernel
theorem dX7_take_72 : decode cX7_take 72 = .ok (.irem, 1) := by decide +kernel
theorem dX7_take_73 : decode cX7_take 73 = .ok (.ifCond .ne 13, 3) := by decide +kernel
theorem dX7_take_76 : decode cX7_take 76 = .ok (.aload_n 0, 1) := by decide +kernel
theorem dX7_take_77 : decode cX7_take 77 = .ok (.dup, 1) := by decide +kernel
theorem dX7_take_78 : decode cX7_take 78 = .ok (.getfield 28, 3) := by decide +kernel
theorem dX7_take_81 : decode cX7_take 81 = .ok (.iconst 1, 1) := by decide +kernel
theorem dX7_take_82 : decode cX7_take 82 = .ok (.iadd, 1) := by decide +kernel
theorem dX7_take_83 : decode cX7_take 83 = .ok (.putfield 28, 3) := by decide +kernel
theorem dX7_take_86 : decode cX7_take 86 = .ok (.iconst 0, 1) := by decide +kernel
theorem dX7_take_87 : decode cX7_take 87 = .ok (.ireturn, 1) := by decide +kernel
theorem dX7_take_88 : decode cX7_take 88 = .ok (.aload_n 0, 1) := by decide +kernel
theorem dX7_take_89 : decode cX7_take 89 = .ok (.getfield 9, 3) := by decide +kernel
theorem dX7_take_92 : decode cX7_take 92 = .ok (.iconst 0, 1) := by decide +kernel
theorem dX7_take_93 : decode cX7_take 93 = .ok (.iconst 0, 1) := by decide +kernel
theorem dX7_take_94 : decode cX7_take 94 = .ok (.iastore, 1) := by decide +kernel
theorem dX7_take_95 : decode cX7_take 95 = .ok (.aload_n 0, 1) := by decide +kernel
theorem dX7_take_96 : decode cX7_take 96 = .ok (.getfield 9, 3) := by decide +kernel
theorem dX7_take_99 : decode cX7_take 99 = .ok (.iconst 1, 1) := by decide +kernel
theorem dX7_take_100 : decode cX7_take 100 = .ok (.iconst 0, 1) := by decide +kernel
theorem dX7_take_101 : decode cX7_take 101 = .ok (.iastore, 1) := by decide +kernel
theorem dX7_take_102 : decode cX7_take 102 = .ok (.aload_n 0, 1) := by decide +kernel
theorem dX7_take_103 : decode cX7_take 103 = .ok (.getfield 15, 3) := by decide +kernel
theorem dX7_take_106 : decode cX7_take 106 = .ok (.iload_n 1, 1) := by decide +kernel
theorem dX7_take_107 : decode cX7_take 107 = .ok (.dup2, 1) := by decide +kernel
theorem dX7_take_108 : decode cX7_take 108 = .ok (.iaload, 1) := by decide +kernel
theorem dX7_take_109 : decode cX7_take 109 = .ok (.iconst 1, 1) := by decide +kernel
theorem dX7_take_110 : decode cX7_take 110 = .ok (.iadd, 1) := by decide +kernel
theorem dX7_take_111 : decode cX7_take 111 = .ok (.iastore, 1) := by decide +kernel
theorem dX7_take_112 : decode cX7_take 112 = .ok (.aload_n 0, 1) := by decide +kernel
theorem dX7_take_113 : decode cX7_take 113 = .ok (.dup, 1) := by decide +kernel
theorem dX7_take_114 : decode cX7_take 114 = .ok (.getfield 24, 3) := by decide +kernel
theorem dX7_take_117 : decode cX7_take 117 = .ok (.iconst 1, 1) := by decide +kernel
theorem dX7_take_118 : decode cX7_take 118 = .ok (.iadd, 1) := by decide +kernel
theorem dX7_take_119 : decode cX7_take 119 = .ok (.putfield 24, 3) := by decide +kernel
theorem dX7_take_122 : decode cX7_take 122 = .ok (.aload_n 0, 1) := by decide +kernel
theorem dX7_take_123 : decode cX7_take 123 = .ok (.getfield 15, 3) := by decide +kernel
theorem dX7_take_126 : decode cX7_take 126 = .ok (.iconst 0, 1) := by decide +kernel
theorem dX7_take_127 : decode cX7_take 127 = .ok (.iaload, 1) := by decide +kernel
theorem dX7_take_128 : decode cX7_take 128 = .ok (.aload_n 0, 1) := by decide +kernel
theorem dX7_take_129 : decode cX7_take 129 = .ok (.getfield 15, 3) := by decide +kernel
theorem dX7_take_132 : decode cX7_take 132 = .ok (.iconst 1, 1) := by decide +kernel
theorem dX7_take_133 : decode cX7_take 133 = .ok (.iaload, 1) := by decide +kernel
theorem dX7_take_134 : decode cX7_take 134 = .ok (.iadd, 1) := by decide +kernel
theorem dX7_take_135 : decode cX7_take 135 = .ok (.iconst 2, 1) := by decide +kernel
theorem dX7_take_136 : decode cX7_take 136 = .ok (.irem, 1) := by decide +kernel
theorem dX7_take_137 : decode cX7_take 137 = .ok (.iconst 1, 1) := by decide +kernel
theorem dX7_take_138 : decode cX7_take 138 = .ok (.if_icmp .ne 13, 3) := by decide +kernel
theorem dX7_take_141 : decode cX7_take 141 = .ok (.aload_n 0, 1) := by decide +kernel
theorem dX7_take_142 : decode cX7_take 142 = .ok (.dup, 1) := by decide +kernel
theorem dX7_take_143 : decode cX7_take 143 = .ok (.getfield 28, 3) := by decide +kernel
theorem dX7_take_146 : decode cX7_take 146 = .ok (.iconst 1, 1) := by decide +kernel
theorem dX7_take_147 : decode cX7_take 147 = .ok (.iadd, 1) := by decide +kernel
theorem dX7_take_148 : decode cX7_take 148 = .ok (.putfield 28, 3) := by decide +kernel
theorem dX7_take_151 : decode cX7_take 151 = .ok (.iload_n 2, 1) := by decide +kernel
theorem dX7_take_152 : decode cX7_take 152 = .ok (.ifCond .ne 35, 3) := by decide +kernel
theorem dX7_take_155 : decode cX7_take 155 = .ok (.aload_n 0, 1) := by decide +kernel
theorem dX7_take_156 : decode cX7_take 156 = .ok (.getfield 15, 3) := by decide +kernel
theorem dX7_take_159 : decode cX7_take 159 = .ok (.iload_n 1, 1) := by decide +kernel
theorem dX7_take_160 : decode cX7_take 160 = .ok (.iaload, 1) := by decide +kernel
theorem dX7_take_161 : decode cX7_take 161 = .ok (.bipush 6, 2) := by decide +kernel
theorem dX7_take_163 : decode cX7_take 163 = .ok (.if_icmp .lt 22, 3) := by decide +kernel
theorem dX7_take_166 : decode cX7_take 166 = .ok (.aload_n 0, 1) := by decide +kernel
theorem dX7_take_167 : decode cX7_take 167 = .ok (.getfield 15, 3) := by decide +kernel
theorem dX7_take_170 : decode cX7_take 170 = .ok (.iload_n 1, 1) := by decide +kernel
theorem dX7_take_171 : decode cX7_take 171 = .ok (.iaload, 1) := by decide +kernel
theorem dX7_take_172 : decode cX7_take 172 = .ok (.aload_n 0, 1) := by decide +kernel
theorem dX7_take_173 : decode cX7_take 173 = .ok (.getfield 15, 3) := by decide +kernel
theorem dX7_take_176 : decode cX7_take 176 = .ok (.iconst 1, 1) := by decide +kernel
theorem dX7_take_177 : decode cX7_take 177 = .ok (.iload_n 1, 1) := by decide +kernel
theorem dX7_take_178 : decode cX7_take 178 = .ok (.isub, 1) := by decide +kernel
theorem dX7_take_179 : decode cX7_take 179 = .ok (.iaload, 1) := by decide +kernel
theorem dX7_take_180 : decode cX7_take 180 = .ok (.isub, 1) := by decide +kernel
theorem dX7_take_181 : decode cX7_take 181 = .ok (.iconst 2, 1) := by decide +kernel
theorem dX7_take_182 : decode cX7_take 182 = .ok (.if_icmp .ge 5, 3) := by decide +kernel
theorem dX7_take_185 : decode cX7_take 185 = .ok (.iconst 1, 1) := by decide +kernel
theorem dX7_take_186 : decode cX7_take 186 = .ok (.ireturn, 1) := by decide +kernel
theorem dX7_take_187 : decode cX7_take 187 = .ok (.aload_n 0, 1) := by decide +kernel
theorem dX7_take_188 : decode cX7_take 188 = .ok (.invokevirtual 50, 3) := by decide +kernel
theorem dX7_take_191 : decode cX7_take 191 = .ok (.aload_n 0, 1) := by decide +kernel
theorem dX7_take_192 : decode cX7_take 192 = .ok (.getfield 18, 3) := by decide +kernel
theorem dX7_take_195 : decode cX7_take 195 = .ok (.iload_n 1, 1) := by decide +kernel
theorem dX7_take_196 : decode cX7_take 196 = .ok (.dup2, 1) := by decide +kernel
theorem dX7_take_197 : decode cX7_take 197 = .ok (.iaload, 1) := by decide +kernel
theorem dX7_take_198 : decode cX7_take 198 = .ok (.iconst 1, 1) := by decide +kernel
theorem dX7_take_199 : decode cX7_take 199 = .ok (.iadd, 1) := by decide +kernel
theorem dX7_take_200 : decode cX7_take 200 = .ok (.iastore, 1) := by decide +kernel
theorem dX7_take_201 : decode cX7_take 201 = .ok (.aload_n 0, 1) := by decide +kernel
theorem dX7_take_202 : decode cX7_take 202 = .ok (.getfield 18, 3) := by decide +kernel
theorem dX7_take_205 : decode cX7_take 205 = .ok (.iload_n 1, 1) := by decide +kernel
theorem dX7_take_206 : decode cX7_take 206 = .ok (.iaload, 1) := by decide +kernel
theorem dX7_take_207 : decode cX7_take 207 = .ok (.aload_n 0, 1) := by decide +kernel
theorem dX7_take_208 : decode cX7_take 208 = .ok (.getfield 36, 3) := by decide +kernel
theorem dX7_take_211 : decode cX7_take 211 = .ok (.if_icmp .lt 7, 3) := by decide +kernel
theorem dX7_take_214 : decode cX7_take 214 = .ok (.iconst 3, 1) := by decide +kernel
theorem dX7_take_215 : decode cX7_take 215 = .ok (.goto 4, 3) := by decide +kernel
theorem dX7_take_218 : decode cX7_take 218 = .ok (.iconst 2, 1) := by decide +kernel
theorem dX7_take_219 : decode cX7_take 219 = .ok (.ireturn, 1) := by decide +kernel
theorem dX7_keepSet_0 : decode cX7_keepSet 0 = .ok (.aload_n 0, 1) := by decide +kernel
theorem dX7_keepSet_1 : decode cX7_keepSet 1 = .ok (.invokevirtual 53, 3) := by decide +kernel
theorem dX7_keepSet_4 : decode cX7_keepSet 4 = .ok (.istore_n 1, 1) := by decide +kernel
theorem dX7_keepSet_5 : decode cX7_keepSet 5 = .ok (.iload_n 1, 1) := by decide +kernel
theorem dX7_keepSet_6 : decode cX7_keepSet 6 = .ok (.iconst 5, 1) := by decide +kernel
theorem dX7_keepSet_7 : decode cX7_keepSet 7 = .ok (.if_icmp .ge 33, 3) := by decide +kernel
theorem dX7_keepSet_10 : decode cX7_keepSet 10 = .ok (.aload_n 0, 1) := by decide +kernel
theorem dX7_keepSet_11 : decode cX7_keepSet 11 = .ok (.getfield 21, 3) := by decide +kernel
theorem dX7_keepSet_14 : decode cX7_keepSet 14 = .ok (.iconst 2, 1) := by decide +kernel
theorem dX7_keepSet_15 : decode cX7_keepSet 15 = .ok (.iload_n 1, 1) := by decide +kernel
theorem dX7_keepSet_16 : decode cX7_keepSet 16 = .ok (.imul, 1) := by decide +kernel
theorem dX7_keepSet_17 : decode cX7_keepSet 17 = .ok (.aload_n 0, 1) := by decide +kernel
theorem dX7_keepSet_18 : decode cX7_keepSet 18 = .ok (.getfield 15, 3) := by decide +kernel
theorem dX7_keepSet_21 : decode cX7_keepSet 21 = .ok (.iconst 0, 1) := by decide +kernel
theorem dX7_keepSet_22 : decode cX7_keepSet 22 = .ok (.iaload, 1) := by decide +kernel
theorem dX7_keepSet_23 : decode cX7_keepSet 23 = .ok (.iastore, 1) := by decide +kernel
theorem dX7_keepSet_24 : decode cX7_keepSet 24 = .ok (.aload_n 0, 1) := by decide +kernel
theorem dX7_keepSet_25 : decode cX7_keepSet 25 = .ok (.getfield 21, 3) := by decide +kernel
theorem dX7_keepSet_28 : decode cX7_keepSet 28 = .ok (.iconst 2, 1) := by decide +kernel
theorem dX7_keepSet_29 : decode cX7_keepSet 29 = .ok (.iload_n 1, 1) := by decide +kernel
theorem dX7_keepSet_30 : decode cX7_keepSet 30 = .ok (.imul, 1) := by decide +kernel
theorem dX7_keepSet_31 : decode cX7_keepSet 31 = .ok (.iconst 1, 1) := by decide +kernel
theorem dX7_keepSet_32 : decode cX7_keepSet 32 = .ok (.iadd, 1) := by decide +kernel
theorem dX7_keepSet_33 : decode cX7_keepSet 33 = .ok (.aload_n 0, 1) := by decide +kernel
theorem dX7_keepSet_34 : decode cX7_keepSet 34 = .ok (.getfield 15, 3) := by decide +kernel
theorem dX7_keepSet_37 : decode cX7_keepSet 37 = .ok (.iconst 1, 1) := by decide +kernel
theorem dX7_keepSet_38 : decode cX7_keepSet 38 = .ok (.iaload, 1) := by decide +kernel
theorem dX7_keepSet_39 : decode cX7_keepSet 39 = .ok (.iastore, 1) := by decide +kernel
theorem dX7_keepSet_40 : decode cX7_keepSet 40 = .ok (.aload_n 0, 1) := by decide +kernel
theorem dX7_keepSet_41 : decode cX7_keepSet 41 = .ok (.getfield 15, 3) := by decide +kernel
theorem dX7_keepSet_44 : decode cX7_keepSet 44 = .ok (.iconst 0, 1) := by decide +kernel
theorem dX7_keepSet_45 : decode cX7_keepSet 45 = .ok (.iconst 0, 1) := by decide +kernel
theorem dX7_keepSet_46 : decode cX7_keepSet 46 = .ok (.iastore, 1) := by decide +kernel
theorem dX7_keepSet_47 : decode cX7_keepSet 47 = .ok (.aload_n 0, 1) := by decide +kernel
theorem dX7_keepSet_48 : decode cX7_keepSet 48 = .ok (.getfield 15, 3) := by decide +kernel
theorem dX7_keepSet_51 : decode cX7_keepSet 51 = .ok (.iconst 1, 1) := by decide +kernel
theorem dX7_keepSet_52 : decode cX7_keepSet 52 = .ok (.iconst 0, 1) := by decide +kernel
theorem dX7_keepSet_53 : decode cX7_keepSet 53 = .ok (.iastore, 1) := by decide +kernel
theorem dX7_keepSet_54 : decode cX7_keepSet 54 = .ok (.return_, 1) := by decide +kernel
theorem dX7_isTie_0 : decode cX7_isTie 0 = .ok (.aload_n 0, 1) := by decide +kernel
theorem dX7_isTie_1 : decode cX7_isTie 1 = .ok (.getfield 15, 3) := by decide +kernel
theorem dX7_isTie_4 : decode cX7_isTie 4 = .ok (.iconst 0, 1) := by decide +kernel
theorem dX7_isTie_5 : decode cX7_isTie 5 = .ok (.iaload, 1) := by decide +kernel
theorem dX7_isTie_6 : decode cX7_isTie 6 = .ok (.bipush 6, 2) := by decide +kernel
theorem dX7_isTie_8 : decode cX7_isTie 8 = .ok (.if_icmp .ne 18, 3) := by decide +kernel
theorem dX7_isTie_11 : decode cX7_isTie 11 = .ok (.aload_n 0, 1) := by decide +kernel
theorem dX7_isTie_12 : decode cX7_isTie 12 = .ok (.getfield 15, 3) := by decide +kernel
theorem dX7_isTie_15 : decode cX7_isTie 15 = .ok (.iconst 1, 1) := by decide +kernel
theorem dX7_isTie_16 : decode cX7_isTie 16 = .ok (.iaload, 1) := by decide +kernel
theorem dX7_isTie_17 : decode cX7_isTie 17 = .ok (.bipush 6, 2) := by decide +kernel
theorem dX7_isTie_19 : decode cX7_isTie 19 = .ok (.if_icmp .ne 7, 3) := by decide +kernel
theorem dX7_isTie_22 : decode cX7_isTie 22 = .ok (.iconst 1, 1) := by decide +kernel
theorem dX7_isTie_23 : decode cX7_isTie 23 = .ok (.goto 4, 3) := by decide +kernel
theorem dX7_isTie_26 : decode cX7_isTie 26 = .ok (.iconst 0, 1) := by decide +kernel
theorem dX7_isTie_27 : decode cX7_isTie 27 = .ok (.ireturn, 1) := by decide +kernel
theorem dX7_setsInAll_0 : decode cX7_setsInAll 0 = .ok (.aload_n 0, 1) := by decide +kernel
theorem dX7_setsInAll_1 : decode cX7_setsInAll 1 = .ok (.getfield 18, 3) := by decide +kernel
theorem dX7_setsInAll_4 : decode cX7_setsInAll 4 = .ok (.iconst 0, 1) := by decide +kernel
theorem dX7_setsInAll_5 : decode cX7_setsInAll 5 = .ok (.iaload, 1) := by decide +kernel
theorem dX7_setsInAll_6 : decode cX7_setsInAll 6 = .ok (.aload_n 0, 1) := by decide +kernel
theorem dX7_setsInAll_7 : decode cX7_setsInAll 7 = .ok (.getfield 18, 3) := by decide +kernel
theorem dX7_setsInAll_10 : decode cX7_setsInAll 10 = .ok (.iconst 1, 1) := by decide +kernel
theorem dX7_setsInAll_11 : decode cX7_setsInAll 11 = .ok (.iaload, 1) := by decide +kernel
theorem dX7_setsInAll_12 : decode cX7_setsInAll 12 = .ok (.iadd, 1) := by decide +kernel
theorem dX7_setsInAll_13 : decode cX7_setsInAll 13 = .ok (.ireturn, 1) := by decide +kernel
theorem dX7_serves_0 : decode cX7_serves 0 = .ok (.aload_n 0, 1) := by decide +kernel
theorem dX7_serves_1 : decode cX7_serves 1 = .ok (.getfield 24, 3) := by decide +kernel
theorem dX7_serves_4 : decode cX7_serves 4 = .ok (.istore_n 1, 1) := by decide +kernel
theorem dX7_serves_5 : decode cX7_serves 5 = .ok (.aload_n 0, 1) := by decide +kernel
theorem dX7_serves_6 : decode cX7_serves 6 = .ok (.invokevirtual 46, 3) := by decide +kernel
theorem dX7_serves_9 : decode cX7_serves 9 = .ok (.ifCond .eq 23, 3) := by decide +kernel
theorem dX7_serves_12 : decode cX7_serves 12 = .ok (.iload_n 1, 1) := by decide +kernel
theorem dX7_serves_13 : decode cX7_serves 13 = .ok (.aload_n 0, 1) := by decide +kernel
theorem dX7_serves_14 : decode cX7_serves 14 = .ok (.getfield 9, 3) := by decide +kernel
theorem dX7_serves_17 : decode cX7_serves 17 = .ok (.iconst 0, 1) := by decide +kernel
theorem dX7_serves_18 : decode cX7_serves 18 = .ok (.iaload, 1) := by decide +kernel
theorem dX7_serves_19 : decode cX7_serves 19 = .ok (.aload_n 0, 1) := by decide +kernel
theorem dX7_serves_20 : decode cX7_serves 20 = .ok (.getfield 9, 3) := by decide +kernel
theorem dX7_serves_23 : decode cX7_serves 23 = .ok (.iconst 1, 1) := by decide +kernel
theorem dX7_serves_24 : decode cX7_serves 24 = .ok (.iaload, 1) := by decide +kernel
theorem dX7_serves_25 : decode cX7_serves 25 = .ok (.iadd, 1) := by decide +kernel
theorem dX7_serves_26 : decode cX7_serves 26 = .ok (.iconst 1, 1) := by decide +kernel
theorem dX7_serves_27 : decode cX7_serves 27 = .ok (.iadd, 1) := by decide +kernel
theorem dX7_serves_28 : decode cX7_serves 28 = .ok (.iconst 2, 1) := by decide +kernel
theorem dX7_serves_29 : decode cX7_serves 29 = .ok (.idiv, 1) := by decide +kernel
theorem dX7_serves_30 : decode cX7_serves 30 = .ok (.iadd, 1) := by decide +kernel
theorem dX7_serves_31 : decode cX7_serves 31 = .ok (.istore_n 1, 1) := by decide +kernel
theorem dX7_serves_32 : decode cX7_serves 32 = .ok (.iload_n 1, 1) := by decide +kernel
theorem dX7_serves_33 : decode cX7_serves 33 = .ok (.iconst 2, 1) := by decide +kernel
theorem dX7_serves_34 : decode cX7_serves 34 = .ok (.irem, 1) := by decide +kernel
theorem dX7_serves_35 : decode cX7_serves 35 = .ok (.ireturn, 1) := by decide +kernel
theorem dX7_gamesOfSet_0 : decode cX7_gamesOfSet 0 = .ok (.iload_n 1, 1) := by decide +kernel
theorem dX7_gamesOfSet_1 : decode cX7_gamesOfSet 1 = .ok (.ifCond .lt 27, 3) := by decide +kernel
theorem dX7_gamesOfSet_4 : decode cX7_gamesOfSet 4 = .ok (.iload_n 1, 1) := by decide +kernel
theorem dX7_gamesOfSet_5 : decode cX7_gamesOfSet 5 = .ok (.aload_n 0, 1) := by decide +kernel
theorem dX7_gamesOfSet_6 : decode cX7_gamesOfSet 6 = .ok (.invokevirtual 53, 3) := by decide +kernel
theorem dX7_gamesOfSet_9 : decode cX7_gamesOfSet 9 = .ok (.if_icmp .ge 19, 3) := by decide +kernel
theorem dX7_gamesOfSet_12 : decode cX7_gamesOfSet 12 = .ok (.iload_n 1, 1) := by decide +kernel
theorem dX7_gamesOfSet_13 : decode cX7_gamesOfSet 13 = .ok (.iconst 5, 1) := by decide +kernel
theorem dX7_gamesOfSet_14 : decode cX7_gamesOfSet 14 = .ok (.if_icmp .ge 14, 3) := by decide +kernel
theorem dX7_gamesOfSet_17 : decode cX7_gamesOfSet 17 = .ok (.aload_n 0, 1) := by decide +kernel
theorem dX7_gamesOfSet_18 : decode cX7_gamesOfSet 18 = .ok (.getfield 21, 3) := by decide +kernel
theorem dX7_gamesOfSet_21 : decode cX7_gamesOfSet 21 = .ok (.iconst 2, 1) := by decide +kernel
theorem dX7_gamesOfSet_22 : decode cX7_gamesOfSet 22 = .ok (.iload_n 1, 1) := by decide +kernel
theorem dX7_gamesOfSet_23 : decode cX7_gamesOfSet 23 = .ok (.imul, 1) := by decide +kernel
theorem dX7_gamesOfSet_24 : decode cX7_gamesOfSet 24 = .ok (.iload_n 2, 1) := by decide +kernel
theorem dX7_gamesOfSet_25 : decode cX7_gamesOfSet 25 = .ok (.iadd, 1) := by decide +kernel
theorem dX7_gamesOfSet_26 : decode cX7_gamesOfSet 26 = .ok (.iaload, 1) := by decide +kernel
theorem dX7_gamesOfSet_27 : decode cX7_gamesOfSet 27 = .ok (.ireturn, 1) := by decide +kernel
theorem dX7_gamesOfSet_28 : decode cX7_gamesOfSet 28 = .ok (.iload_n 3, 1) := by decide +kernel
theorem dX7_gamesOfSet_29 : decode cX7_gamesOfSet 29 = .ok (.ifCond .eq 20, 3) := by decide +kernel
theorem dX7_gamesOfSet_32 : decode cX7_gamesOfSet 32 = .ok (.iload_n 1, 1) := by decide +kernel
theorem dX7_gamesOfSet_33 : decode cX7_gamesOfSet 33 = .ok (.aload_n 0, 1) := by decide +kernel
theorem dX7_gamesOfSet_34 : decode cX7_gamesOfSet 34 = .ok (.invokevirtual 53, 3) := by decide +kernel
theorem dX7_gamesOfSet_37 : decode cX7_gamesOfSet 37 = .ok (.if_icmp .ne 12, 3) := by decide +kernel
theorem dX7_gamesOfSet_40 : decode cX7_gamesOfSet 40 = .ok (.aload_n 0, 1) := by decide +kernel
theorem dX7_gamesOfSet_41 : decode cX7_gamesOfSet 41 = .ok (.getfield 15, 3) := by decide +kernel
theorem dX7_gamesOfSet_44 : decode cX7_gamesOfSet 44 = .ok (.iload_n 2, 1) := by decide +kernel
theorem dX7_gamesOfSet_45 : decode cX7_gamesOfSet 45 = .ok (.iaload, 1) := by decide +kernel
theorem dX7_gamesOfSet_46 : decode cX7_gamesOfSet 46 = .ok (.goto 4, 3) := by decide +kernel
theorem dX7_gamesOfSet_49 : decode cX7_gamesOfSet 49 = .ok (.iconst (-1), 1) := by decide +kernel
theorem dX7_gamesOfSet_50 : decode cX7_gamesOfSet 50 = .ok (.ireturn, 1) := by decide +kernel
theorem dX8_init_0 : decode cX8_init 0 = .ok (.aload_n 0, 1) := by decide +kernel
theorem dX8_init_1 : decode cX8_init 1 = .ok (.invokespecial 1, 3) := by decide +kernel
theorem dX8_init_4 : decode cX8_init 4 = .ok (.aload_n 0, 1) := by decide +kernel
theorem dX8_init_5 : decode cX8_init 5 = .ok (.new 7, 3) := by decide +kernel
theorem dX8_init_8 : decode cX8_init 8 = .ok (.dup, 1) := by decide +kernel
theorem dX8_init_9 : decode cX8_init 9 = .ok (.invokespecial 9, 3) := by decide +kernel
theorem dX8_init_12 : decode cX8_init 12 = .ok (.putfield 10, 3) := by decide +kernel
theorem dX8_init_15 : decode cX8_init 15 = .ok (.aload_n 0, 1) := by decide +kernel
theorem dX8_init_16 : decode cX8_init 16 = .ok (.new 16, 3) := by decide +kernel
theorem dX8_init_19 : decode cX8_init 19 = .ok (.dup, 1) := by decide +kernel
theorem dX8_init_20 : decode cX8_init 20 = .ok (.invokespecial 18, 3) := by decide +kernel
theorem dX8_init_23 : decode cX8_init 23 = .ok (.putfield 19, 3) := by decide +kernel
theorem dX8_init_26 : decode cX8_init 26 = .ok (.aload_n 0, 1) := by decide +kernel
theorem dX8_init_27 : decode cX8_init 27 = .ok (.new 23, 3) := by decide +kernel
theorem dX8_init_30 : decode cX8_init 30 = .ok (.dup, 1) := by decide +kernel
theorem dX8_init_31 : decode cX8_init 31 = .ok (.invokespecial 25, 3) := by decide +kernel
theorem dX8_init_34 : decode cX8_init 34 = .ok (.putfield 26, 3) := by decide +kernel
theorem dX8_init_37 : decode cX8_init 37 = .ok (.aload_n 0, 1) := by decide +kernel
theorem dX8_init_38 : decode cX8_init 38 = .ok (.new 30, 3) := by decide +kernel
theorem dX8_init_41 : decode cX8_init 41 = .ok (.dup, 1) := by decide +kernel
theorem dX8_init_42 : decode cX8_init 42 = .ok (.invokespecial 32, 3) := by decide +kernel
theorem dX8_init_45 : decode cX8_init 45 = .ok (.putfield 33, 3) := by decide +kernel
theorem dX8_init_48 : decode cX8_init 48 = .ok (.aload_n 0, 1) := by decide +kernel
theorem dX8_init_49 : decode cX8_init 49 = .ok (.new 37, 3) := by decide +kernel
theorem dX8_init_52 : decode cX8_init 52 = .ok (.dup, 1) := by decide +kernel
theorem dX8_init_53 : decode cX8_init 53 = .ok (.invokespecial 39, 3) := by decide +kernel
theorem dX8_init_56 : decode cX8_init 56 = .ok (.putfield 40, 3) := by decide +kernel
theorem dX8_init_59 : decode cX8_init 59 = .ok (.aload_n 0, 1) := by decide +kernel
theorem dX8_init_60 : decode cX8_init 60 = .ok (.new 44, 3) := by decide +kernel
theorem dX8_init_63 : decode cX8_init 63 = .ok (.dup, 1) := by decide +kernel
theorem dX8_init_64 : decode cX8_init 64 = .ok (.invokespecial 46, 3) := by decide +kernel
theorem dX8_init_67 : decode cX8_init 67 = .ok (.putfield 47, 3) := by decide +kernel
theorem dX8_init_70 : decode cX8_init 70 = .ok (.return_, 1) := by decide +kernel
theorem dX8_land_0 : decode cX8_land 0 = .ok (.iload_n 1, 1) := by decide +kernel
theorem dX8_land_1 : decode cX8_land 1 = .ok (.invokestatic 51, 3) := by decide +kernel
theorem dX8_land_4 : decode cX8_land 4 = .ok (.ifCond .eq 13, 3) := by decide +kernel
theorem dX8_land_7 : decode cX8_land 7 = .ok (.iload_n 2, 1) := by decide +kernel
theorem dX8_land_8 : decode cX8_land 8 = .ok (.ifCond .lt 9, 3) := by decide +kernel
theorem dX8_land_11 : decode cX8_land 11 = .ok (.iload_n 2, 1) := by decide +kernel
theorem dX8_land_12 : decode cX8_land 12 = .ok (.bipush 10, 2) := by decide +kernel
theorem dX8_land_14 : decode cX8_land 14 = .ok (.if_icmp .lt 5, 3) := by decide +kernel
theorem dX8_land_17 : decode cX8_land 17 = .ok (.iconst (-1), 1) := by decide +kernel
theorem dX8_land_18 : decode cX8_land 18 = .ok (.ireturn, 1) := by decide +kernel
theorem dX8_land_19 : decode cX8_land 19 = .ok (.aload_n 0, 1) := by decide +kernel
theorem dX8_land_20 : decode cX8_land 20 = .ok (.getfield 10, 3) := by decide +kernel
theorem dX8_land_23 : decode cX8_land 23 = .ok (.getfield 55, 3) := by decide +kernel
theorem dX8_land_26 : decode cX8_land 26 = .ok (.iload_n 1, 1) := by decide +kernel
theorem dX8_land_27 : decode cX8_land 27 = .ok (.iaload, 1) := by decide +kernel
theorem dX8_land_28 : decode cX8_land 28 = .ok (.istore_n 3, 1) := by decide +kernel
theorem dX8_land_29 : decode cX8_land 29 = .ok (.aload_n 0, 1) := by decide +kernel
theorem dX8_land_30 : decode cX8_land 30 = .ok (.getfield 10, 3) := by decide +kernel
theorem dX8_land_33 : decode cX8_land 33 = .ok (.getfield 55, 3) := by decide +kernel
theorem dX8_land_36 : decode cX8_land 36 = .ok (.iload_n 1, 1) := by decide +kernel
theorem dX8_land_37 : decode cX8_land 37 = .ok (.iload_n 2, 1) := by decide +kernel
theorem dX8_land_38 : decode cX8_land 38 = .ok (.iastore, 1) := by decide +kernel
theorem dX8_land_39 : decode cX8_land 39 = .ok (.iload_n 3, 1) := by decide +kernel
theorem dX8_land_40 : decode cX8_land 40 = .ok (.ireturn, 1) := by decide +kernel
theorem dX8_draw_0 : decode cX8_draw 0 = .ok (.iload_n 1, 1) := by decide +kernel
theorem dX8_draw_1 : decode cX8_draw 1 = .ok (.ifCond .lt 22, 3) := by decide +kernel
theorem dX8_draw_4 : decode cX8_draw 4 = .ok (.iload_n 1, 1) := by decide +kernel
theorem dX8_draw_5 : decode cX8_draw 5 = .ok (.iconst 4, 1) := by decide +kernel
theorem dX8_draw_6 : decode cX8_draw 6 = .ok (.if_icmp .ge 17, 3) := by decide +kernel
theorem dX8_draw_9 : decode cX8_draw 9 = .ok (.iload_n 2, 1) := by decide +kernel
theorem dX8_draw_10 : decode cX8_draw 10 = .ok (.invokestatic 59, 3) := by decide +kernel
theorem dX8_draw_13 : decode cX8_draw 13 = .ok (.ifCond .eq 10, 3) := by decide +kernel
theorem dX8_draw_16 : decode cX8_draw 16 = .ok (.iload_n 3, 1) := by decide +kernel
theorem dX8_draw_17 : decode cX8_draw 17 = .ok (.invokestatic 62, 3) := by decide +kernel
theorem dX8_draw_20 : decode cX8_draw 20 = .ok (.ifCond .ne 5, 3) := by decide +kernel
theorem dX8_draw_23 : decode cX8_draw 23 = .ok (.iconst (-1), 1) := by decide +kernel
theorem dX8_draw_24 : decode cX8_draw 24 = .ok (.ireturn, 1) := by decide +kernel
theorem dX8_draw_25 : decode cX8_draw 25 = .ok (.aload_n 0, 1) := by decide +kernel
theorem dX8_draw_26 : decode cX8_draw 26 = .ok (.getfield 10, 3) := by decide +kernel
theorem dX8_draw_29 : decode cX8_draw 29 = .ok (.getfield 65, 3) := by decide +kernel
theorem dX8_draw_32 : decode cX8_draw 32 = .ok (.iload_n 1, 1) := by decide +kernel
theorem dX8_draw_33 : decode cX8_draw 33 = .ok (.aaload, 1) := by decide +kernel
theorem dX8_draw_34 : decode cX8_draw 34 = .ok (.iload_n 2, 1) := by decide +kernel
theorem dX8_draw_35 : decode cX8_draw 35 = .ok (.iload_n 3, 1) := by decide +kernel
theorem dX8_draw_36 : decode cX8_draw 36 = .ok (.invokevirtual 69, 3) := by decide +kernel
theorem dX8_draw_39 : decode cX8_draw 39 = .ok (.iconst 1, 1) := by decide +kernel
theorem dX8_draw_40 : decode cX8_draw 40 = .ok (.ireturn, 1) := by decide +kernel
theorem dX8_enter_0 : decode cX8_enter 0 = .ok (.aload_n 0, 1) := by decide +kernel
theorem dX8_enter_1 : decode cX8_enter 1 = .ok (.getfield 10, 3) := by decide +kernel
theorem dX8_enter_4 : decode cX8_enter 4 = .ok (.iload_n 1, 1) := by decide +kernel
theorem dX8_enter_5 : decode cX8_enter 5 = .ok (.invokevirtual 75, 3) := by decide +kernel
theorem dX8_enter_8 : decode cX8_enter 8 = .ok (.astore_n 3, 1) := by decide +kernel
theorem dX8_enter_9 : decode cX8_enter 9 = .ok (.aload_n 3, 1) := by decide +kernel
theorem dX8_enter_10 : decode cX8_enter 10 = .ok (.ifnull 10, 3) := by decide +kernel
theorem dX8_enter_13 : decode cX8_enter 13 = .ok (.iload_n 2, 1) := by decide +kernel
theorem dX8_enter_14 : decode cX8_enter 14 = .ok (.invokestatic 51, 3) := by decide +kernel
theorem dX8_enter_17 : decode cX8_enter 17 = .ok (.ifCond .ne 5, 3) := by decide +kernel
theorem dX8_enter_20 : decode cX8_enter 20 = .ok (.iconst (-1), 1) := by decide +kernel
theorem dX8_enter_21 : decode cX8_enter 21 = .ok (.ireturn, 1) := by decide +kernel
theorem dX8_enter_22 : decode cX8_enter 22 = .ok (.aload_n 3, 1) := by decide +kernel
theorem dX8_enter_23 : decode cX8_enter 23 = .ok (.getfield 79, 3) := by decide +kernel
theorem dX8_enter_26 : decode cX8_enter 26 = .ok (.ifCond .eq 6, 3) := by decide +kernel
theorem dX8_enter_29 : decode cX8_enter 29 = .ok (.bipush (-4), 2) := by decide +kernel
theorem dX8_enter_31 : decode cX8_enter 31 = .ok (.ireturn, 1) := by decide +kernel
theorem dX8_enter_32 : decode cX8_enter 32 = .ok (.aload_n 3, 1) := by decide +kernel
theorem dX8_enter_33 : decode cX8_enter 33 = .ok (.getfield 83, 3) := by decide +kernel
theorem dX8_enter_36 : decode cX8_enter 36 = .ok (.iload_n 2, 1) := by decide +kernel
theorem dX8_enter_37 : decode cX8_enter 37 = .ok (.baload, 1) := by decide +kernel
theorem dX8_enter_38 : decode cX8_enter 38 = .ok (.ifCond .eq 6, 3) := by decide +kernel
theorem dX8_enter_41 : decode cX8_enter 41 = .ok (.bipush (-3), 2) := by decide +kernel
theorem dX8_enter_43 : decode cX8_enter 43 = .ok (.ireturn, 1) := by decide +kernel
theorem dX8_enter_44 : decode cX8_enter 44 = .ok (.aload_n 3, 1) := by decide +kernel
theorem dX8_enter_45 : decode cX8_enter 45 = .ok (.getfield 87, 3) := by decide +kernel
theorem dX8_enter_48 : decode cX8_enter 48 = .ok (.aload_n 3, 1) := by decide +kernel
theorem dX8_enter_49 : decode cX8_enter 49 = .ok (.getfield 91, 3) := by decide +kernel
theorem dX8_enter_52 : decode cX8_enter 52 = .ok (.if_icmp .lt 6, 3) := by decide +kernel
theorem dX8_enter_55 : decode cX8_enter 55 = .ok (.bipush (-2), 2) := by decide +kernel
theorem dX8_enter_57 : decode cX8_enter 57 = .ok (.ireturn, 1) := by decide +kernel
theorem dX8_enter_58 : decode cX8_enter 58 = .ok (.aload_n 3, 1) := by decide +kernel
theorem dX8_enter_59 : decode cX8_enter 59 = .ok (.iload_n 2, 1) := by decide +kernel
theorem dX8_enter_60 : decode cX8_enter 60 = .ok (.invokevirtual 94, 3) := by decide +kernel
theorem dX8_enter_63 : decode cX8_enter 63 = .ok (.aload_n 3, 1) := by decide +kernel
theorem dX8_enter_64 : decode cX8_enter 64 = .ok (.getfield 87, 3) := by decide +kernel
theorem dX8_enter_67 : decode cX8_enter 67 = .ok (.ireturn, 1) := by decide +kernel
theorem dX8_seeds_0 : decode cX8_seeds 0 = .ok (.aload_n 0, 1) := by decide +kernel
theorem dX8_seeds_1 : decode cX8_seeds 1 = .ok (.getfield 10, 3) := by decide +kernel
theorem dX8_seeds_4 : decode cX8_seeds 4 = .ok (.iload_n 1, 1) := by decide +kernel
theorem dX8_seeds_5 : decode cX8_seeds 5 = .ok (.invokevirtual 75, 3) := by decide +kernel
theorem dX8_seeds_8 : decode cX8_seeds 8 = .ok (.astore_n 3, 1) := by decide +kernel
theorem dX8_seeds_9 : decode cX8_seeds 9 = .ok (.aload_n 3, 1) := by decide +kernel
theorem dX8_seeds_10 : decode cX8_seeds 10 = .ok (.ifnull 12, 3) := by decide +kernel
theorem dX8_seeds_13 : decode cX8_seeds 13 = .ok (.iload_n 2, 1) := by decide +kernel
theorem dX8_seeds_14 : decode cX8_seeds 14 = .ok (.ifCond .lt 8, 3) := by decide +kernel
theorem dX8_seeds_17 : decode cX8_seeds 17 = .ok (.iload_n 2, 1) := by decide +kernel
theorem dX8_seeds_18 : decode cX8_seeds 18 = .ok (.iconst 4, 1) := by decide +kernel
theorem dX8_seeds_19 : decode cX8_seeds 19 = .ok (.if_icmp .le 5, 3) := by decide +kernel
theorem dX8_seeds_22 : decode cX8_seeds 22 = .ok (.iconst (-1), 1) := by decide +kernel
theorem dX8_seeds_23 : decode cX8_seeds 23 = .ok (.ireturn, 1) := by decide +kernel
theorem dX8_seeds_24 : decode cX8_seeds 24 = .ok (.aload_n 3, 1) := by decide +kernel
theorem dX8_seeds_25 : decode cX8_seeds 25 = .ok (.getfield 79, 3) := by decide +kernel
theorem dX8_seeds_28 : decode cX8_seeds 28 = .ok (.ifCond .eq 6, 3) := by decide +kernel
theorem dX8_seeds_31 : decode cX8_seeds 31 = .ok (.bipush (-4), 2) := by decide +kernel
theorem dX8_seeds_33 : decode cX8_seeds 33 = .ok (.ireturn, 1) := by decide +kernel
theorem dX8_seeds_34 : decode cX8_seeds 34 = .ok (.aload_n 3, 1) := by decide +kernel
theorem dX8_seeds_35 : decode cX8_seeds 35 = .ok (.iload_n 2, 1) := by decide +kernel
theorem dX8_seeds_36 : decode cX8_seeds 36 = .ok (.putfield 98, 3) := by decide +kernel
theorem dX8_seeds_39 : decode cX8_seeds 39 = .ok (.iconst 1, 1) := by decide +kernel
theorem dX8_seeds_40 : decode cX8_seeds 40 = .ok (.ireturn, 1) := by decide +kernel
theorem dX8_lay_0 : decode cX8_lay 0 = .ok (.aload_n 0, 1) := by decide +kernel
theorem dX8_lay_1 : decode cX8_lay 1 = .ok (.getfield 10, 3) := by decide +kernel
theorem dX8_lay_4 : decode cX8_lay 4 = .ok (.iload_n 1, 1) := by decide +kernel
theorem dX8_lay_5 : decode cX8_lay 5 = .ok (.invokevirtual 75, 3) := by decide +kernel
theorem dX8_lay_8 : decode cX8_lay 8 = .ok (.astore_n 3, 1) := by decide +kernel
theorem dX8_lay_9 : decode cX8_lay 9 = .ok (.aload_n 3, 1) := by decide +kernel
theorem dX8_lay_10 : decode cX8_lay 10 = .ok (.ifnonnull 5, 3) := by decide +kernel
theorem dX8_lay_13 : decode cX8_lay 13 = .ok (.iconst (-1), 1) := by decide +kernel
theorem dX8_lay_14 : decode cX8_lay 14 = .ok (.ireturn, 1) := by decide +kernel
theorem dX8_lay_15 : decode cX8_lay 15 = .ok (.aload_n 3, 1) := by decide +kernel
theorem dX8_lay_16 : decode cX8_lay 16 = .ok (.getfield 79, 3) := by decide +kernel
theorem dX8_lay_19 : decode cX8_lay 19 = .ok (.ifCond .eq 6, 3) := by decide +kernel
theorem dX8_lay_22 : decode cX8_lay 22 = .ok (.bipush (-4), 2) := by decide +kernel
theorem dX8_lay_24 : decode cX8_lay 24 = .ok (.ireturn, 1) := by decide +kernel
theorem dX8_lay_25 : decode cX8_lay 25 = .ok (.aload_n 3, 1) := by decide +kernel
theorem dX8_lay_26 : decode cX8_lay 26 = .ok (.getfield 87, 3) := by decide +kernel
theorem dX8_lay_29 : decode cX8_lay 29 = .ok (.aload_n 3, 1) := by decide +kernel
theorem dX8_lay_30 : decode cX8_lay 30 = .ok (.getfield 91, 3) := by decide +kernel
theorem dX8_lay_33 : decode cX8_lay 33 = .ok (.iconst 2, 1) := by decide +kernel
theorem dX8_lay_34 : decode cX8_lay 34 = .ok (.idiv, 1) := by decide +kernel
theorem dX8_lay_35 : decode cX8_lay 35 = .ok (.iconst 1, 1) := by decide +kernel
theorem dX8_lay_36 : decode cX8_lay 36 = .ok (.iadd, 1) := by decide +kernel
theorem dX8_lay_37 : decode cX8_lay 37 = .ok (.if_icmp .lt 14, 3) := by decide +kernel
theorem dX8_lay_40 : decode cX8_lay 40 = .ok (.aload_n 3, 1) := by decide +kernel
theorem dX8_lay_41 : decode cX8_lay 41 = .ok (.getfield 87, 3) := by decide +kernel
theorem dX8_lay_44 : decode cX8_lay 44 = .ok (.aload_n 3, 1) := by decide +kernel
theorem dX8_lay_45 : decode cX8_lay 45 = .ok (.getfield 98, 3) := by decide +kernel
theorem dX8_lay_48 : decode cX8_lay 48 = .ok (.if_icmp .ge 6, 3) := by decide +kernel
theorem dX8_lay_51 : decode cX8_lay 51 = .ok (.bipush (-5), 2) := by decide +kernel
theorem dX8_lay_53 : decode cX8_lay 53 = .ok (.ireturn, 1) := by decide +kernel
theorem dX8_lay_54 : decode cX8_lay 54 = .ok (.aload_n 0, 1) := by decide +kernel
theorem dX8_lay_55 : decode cX8_lay 55 = .ok (.getfield 19, 3) := by decide +kernel
theorem dX8_lay_58 : decode cX8_lay 58 = .ok (.aload_n 3, 1) := by decide +kernel
theorem dX8_lay_59 : decode cX8_lay 59 = .ok (.aload_n 0, 1) := by decide +kernel
theorem dX8_lay_60 : decode cX8_lay 60 = .ok (.getfield 10, 3) := by decide +kernel
theorem dX8_lay_63 : decode cX8_lay 63 = .ok (.getfield 55, 3) := by decide +kernel
theorem dX8_lay_66 : decode cX8_lay 66 = .ok (.iload_n 2, 1) := by decide +kernel
theorem dX8_lay_67 : decode cX8_lay 67 = .ok (.invokevirtual 101, 3) := by decide +kernel
theorem dX8_lay_70 : decode cX8_lay 70 = .ok (.aload_n 3, 1) := by decide +kernel
theorem dX8_lay_71 : decode cX8_lay 71 = .ok (.invokevirtual 105, 3) := by decide +kernel
theorem dX8_lay_74 : decode cX8_lay 74 = .ok (.aload_n 3, 1) := by decide +kernel
theorem dX8_lay_75 : decode cX8_lay 75 = .ok (.getfield 91, 3) := by decide +kernel
theorem dX8_lay_78 : decode cX8_lay 78 = .ok (.aload_n 3, 1) := by decide +kernel
theorem dX8_lay_79 : decode cX8_lay 79 = .ok (.getfield 87, 3) := by decide +kernel
theorem dX8_lay_82 : decode cX8_lay 82 = .ok (.isub, 1) := by decide +kernel
theorem dX8_lay_83 : decode cX8_lay 83 = .ok (.ireturn, 1) := by decide +kernel
theorem dX8_place_0 : decode cX8_place 0 = .ok (.aload_n 0, 1) := by decide +kernel
theorem dX8_place_1 : decode cX8_place 1 = .ok (.getfield 10, 3) := by decide +kernel
theorem dX8_place_4 : decode cX8_place 4 = .ok (.iload_n 1, 1) := by decide +kernel
theorem dX8_place_5 : decode cX8_place 5 = .ok (.invokevirtual 75, 3) := by decide +kernel
theorem dX8_place_8 : decode cX8_place 8 = .ok (.astore_n 3, 1) := by decide +kernel
theorem dX8_place_9 : decode cX8_place 9 = .ok (.aload_n 3, 1) := by decide +kernel
theorem dX8_place_10 : decode cX8_place 10 = .ok (.ifnull 22, 3) := by decide +kernel
theorem dX8_place_13 : decode cX8_place 13 = .ok (.aload_n 3, 1) := by decide +kernel
theorem dX8_place_14 : decode cX8_place 14 = .ok (.getfield 79, 3) := by decide +kernel
theorem dX8_place_17 : decode cX8_place 17 = .ok (.ifCond .eq 15, 3) := by decide +kernel
theorem dX8_place_20 : decode cX8_place 20 = .ok (.iload_n 2, 1) := by decide +kernel
theorem dX8_place_21 : decode cX8_place 21 = .ok (.ifCond .lt 11, 3) := by decide +kernel
theorem dX8_place_24 : decode cX8_place 24 = .ok (.iload_n 2, 1) := by decide +kernel
theorem dX8_place_25 : decode cX8_place 25 = .ok (.aload_n 3, 1) := by decide +kernel
theorem dX8_place_26 : decode cX8_place 26 = .ok (.getfield 91, 3) := by decide +kernel
theorem dX8_place_29 : decode cX8_place 29 = .ok (.if_icmp .lt 6, 3) := by decide +kernel
theorem dX8_place_32 : decode cX8_place 32 = .ok (.bipush (-2), 2) := by decide +kernel
theorem dX8_place_34 : decode cX8_place 34 = .ok (.ireturn, 1) := by decide +kernel
theorem dX8_place_35 : decode cX8_place 35 = .ok (.aload_n 3, 1) := by decide +kernel
theorem dX8_place_36 : decode cX8_place 36 = .ok (.getfield 108, 3) := by decide +kernel
theorem dX8_place_39 : decode cX8_place 39 = .ok (.iload_n 2, 1) := by decide +kernel
theorem dX8_place_40 : decode cX8_place 40 = .ok (.iaload, 1) := by decide +kernel
theorem dX8_place_41 : decode cX8_place 41 = .ok (.ireturn, 1) := by decide +kernel
theorem dX8_of_0 : decode cX8_of 0 = .ok (.aload_n 0, 1) := by decide +kernel
theorem dX8_of_1 : decode cX8_of 1 = .ok (.getfield 10, 3) := by decide +kernel
theorem dX8_of_4 : decode cX8_of 4 = .ok (.iload_n 1, 1) := by decide +kernel
theorem dX8_of_5 : decode cX8_of 5 = .ok (.invokevirtual 75, 3) := by decide +kernel
theorem dX8_of_8 : decode cX8_of 8 = .ok (.astore_n 3, 1) := by decide +kernel
theorem dX8_of_9 : decode cX8_of 9 = .ok (.aload_n 3, 1) := by decide +kernel
theorem dX8_of_10 : decode cX8_of 10 = .ok (.ifnonnull 5, 3) := by decide +kernel
theorem dX8_of_13 : decode cX8_of 13 = .ok (.iconst (-1), 1) := by decide +kernel
theorem dX8_of_14 : decode cX8_of 14 = .ok (.ireturn, 1) := by decide +kernel
theorem dX8_of_15 : decode cX8_of 15 = .ok (.iload_n 2, 1) := by decide +kernel
theorem dX8_of_16 : decode cX8_of 16 = .ok (.tableswitch 94 0 6 #[44, 49, 54, 59, 64, 77, 89], 44) := by decide +kernel
theorem dX8_of_60 : decode cX8_of 60 = .ok (.aload_n 3, 1) := by decide +kernel
theorem dX8_of_61 : decode cX8_of 61 = .ok (.getfield 91, 3) := by decide +kernel
theorem dX8_of_64 : decode cX8_of 64 = .ok (.ireturn, 1) := by decide +kernel
theorem dX8_of_65 : decode cX8_of 65 = .ok (.aload_n 3, 1) := by decide +kernel
theorem dX8_of_66 : decode cX8_of 66 = .ok (.getfield 111, 3) := by decide +kernel
theorem dX8_of_69 : decode cX8_of 69 = .ok (.ireturn, 1) := by decide +kernel
theorem dX8_of_70 : decode cX8_of 70 = .ok (.aload_n 3, 1) := by decide +kernel
theorem dX8_of_71 : decode cX8_of 71 = .ok (.getfield 87, 3) := by decide +kernel
theorem dX8_of_74 : decode cX8_of 74 = .ok (.ireturn, 1) := by decide +kernel
theorem dX8_of_75 : decode cX8_of 75 = .ok (.aload_n 3, 1) := by decide +kernel
theorem dX8_of_76 : decode cX8_of 76 = .ok (.getfield 98, 3) := by decide +kernel
theorem dX8_of_79 : decode cX8_of 79 = .ok (.ireturn, 1) := by decide +kernel
theorem dX8_of_80 : decode cX8_of 80 = .ok (.aload_n 3, 1) := by decide +kernel
theorem dX8_of_81 : decode cX8_of 81 = .ok (.getfield 79, 3) := by decide +kernel
theorem dX8_of_84 : decode cX8_of 84 = .ok (.ifCond .eq 7, 3) := by decide +kernel
theorem dX8_of_87 : decode cX8_of 87 = .ok (.iconst 1, 1) := by decide +kernel
theorem dX8_of_88 : decode cX8_of 88 = .ok (.goto 4, 3) := by decide +kernel
theorem dX8_of_91 : decode cX8_of 91 = .ok (.iconst 0, 1) := by decide +kernel
theorem dX8_of_92 : decode cX8_of 92 = .ok (.ireturn, 1) := by decide +kernel
theorem dX8_of_93 : decode cX8_of 93 = .ok (.aload_n 3, 1) := by decide +kernel
theorem dX8_of_94 : decode cX8_of 94 = .ok (.iconst 0, 1) := by decide +kernel
theorem dX8_of_95 : decode cX8_of 95 = .ok (.aload_n 3, 1) := by decide +kernel
theorem dX8_of_96 : decode cX8_of 96 = .ok (.getfield 91, 3) := by decide +kernel
theorem dX8_of_99 : decode cX8_of 99 = .ok (.iconst 1, 1) := by decide +kernel
theorem dX8_of_100 : decode cX8_of 100 = .ok (.isub, 1) := by decide +kernel
theorem dX8_of_101 : decode cX8_of 101 = .ok (.invokevirtual 114, 3) := by decide +kernel
theorem dX8_of_104 : decode cX8_of 104 = .ok (.ireturn, 1) := by decide +kernel
theorem dX8_of_105 : decode cX8_of 105 = .ok (.aload_n 3, 1) := by decide +kernel
theorem dX8_of_106 : decode cX8_of 106 = .ok (.invokevirtual 118, 3) := by decide +kernel
theorem dX8_of_109 : decode cX8_of 109 = .ok (.ireturn, 1) := by decide +kernel
theorem dX8_of_110 : decode cX8_of 110 = .ok (.iconst (-1), 1) := by decide +kernel
theorem dX8_of_111 : decode cX8_of 111 = .ok (.ireturn, 1) := by decide +kernel
theorem dX8_lucky_0 : decode cX8_lucky 0 = .ok (.aload_n 0, 1) := by decide +kernel
theorem dX8_lucky_1 : decode cX8_lucky 1 = .ok (.getfield 10, 3) := by decide +kernel
theorem dX8_lucky_4 : decode cX8_lucky 4 = .ok (.iload_n 1, 1) := by decide +kernel
theorem dX8_lucky_5 : decode cX8_lucky 5 = .ok (.invokevirtual 75, 3) := by decide +kernel
theorem dX8_lucky_8 : decode cX8_lucky 8 = .ok (.astore 4, 2) := by decide +kernel
theorem dX8_lucky_10 : decode cX8_lucky 10 = .ok (.aload 4, 2) := by decide +kernel
theorem dX8_lucky_12 : decode cX8_lucky 12 = .ok (.ifnull 17, 3) := by decide +kernel
theorem dX8_lucky_15 : decode cX8_lucky 15 = .ok (.iload_n 2, 1) := by decide +kernel
theorem dX8_lucky_16 : decode cX8_lucky 16 = .ok (.invokestatic 51, 3) := by decide +kernel
theorem dX8_lucky_19 : decode cX8_lucky 19 = .ok (.ifCond .eq 10, 3) := by decide +kernel
theorem dX8_lucky_22 : decode cX8_lucky 22 = .ok (.iload_n 3, 1) := by decide +kernel
theorem dX8_lucky_23 : decode cX8_lucky 23 = .ok (.invokestatic 51, 3) := by decide +kernel
theorem dX8_lucky_26 : decode cX8_lucky 26 = .ok (.ifCond .ne 5, 3) := by decide +kernel
theorem dX8_lucky_29 : decode cX8_lucky 29 = .ok (.iconst (-1), 1) := by decide +kernel
theorem dX8_lucky_30 : decode cX8_lucky 30 = .ok (.ireturn, 1) := by decide +kernel
theorem dX8_lucky_31 : decode cX8_lucky 31 = .ok (.aload 4, 2) := by decide +kernel
theorem dX8_lucky_33 : decode cX8_lucky 33 = .ok (.getfield 79, 3) := by decide +kernel
theorem dX8_lucky_36 : decode cX8_lucky 36 = .ok (.ifCond .ne 6, 3) := by decide +kernel
theorem dX8_lucky_39 : decode cX8_lucky 39 = .ok (.bipush (-4), 2) := by decide +kernel
theorem dX8_lucky_41 : decode cX8_lucky 41 = .ok (.ireturn, 1) := by decide +kernel
theorem dX8_lucky_42 : decode cX8_lucky 42 = .ok (.aload 4, 2) := by decide +kernel
theorem dX8_lucky_44 : decode cX8_lucky 44 = .ok (.getfield 83, 3) := by decide +kernel
theorem dX8_lucky_47 : decode cX8_lucky 47 = .ok (.iload_n 3, 1) := by decide +kernel
theorem dX8_lucky_48 : decode cX8_lucky 48 = .ok (.baload, 1) := by decide +kernel
theorem dX8_lucky_49 : decode cX8_lucky 49 = .ok (.ifCond .eq 6, 3) := by decide +kernel
theorem dX8_lucky_52 : decode cX8_lucky 52 = .ok (.bipush (-3), 2) := by decide +kernel
theorem dX8_lucky_54 : decode cX8_lucky 54 = .ok (.ireturn, 1) := by decide +kernel
theorem dX8_lucky_55 : decode cX8_lucky 55 = .ok (.aload 4, 2) := by decide +kernel
theorem dX8_lucky_57 : decode cX8_lucky 57 = .ok (.iload_n 2, 1) := by decide +kernel
theorem dX8_lucky_58 : decode cX8_lucky 58 = .ok (.invokevirtual 122, 3) := by decide +kernel
theorem dX8_lucky_61 : decode cX8_lucky 61 = .ok (.istore 5, 2) := by decide +kernel
theorem dX8_lucky_63 : decode cX8_lucky 63 = .ok (.iload 5, 2) := by decide +kernel
theorem dX8_lucky_65 : decode cX8_lucky 65 = .ok (.ifCond .ge 6, 3) := by decide +kernel
theorem dX8_lucky_68 : decode cX8_lucky 68 = .ok (.bipush (-5), 2) := by decide +kernel
theorem dX8_lucky_70 : decode cX8_lucky 70 = .ok (.ireturn, 1) := by decide +kernel
theorem dX8_lucky_71 : decode cX8_lucky 71 = .ok (.aload 4, 2) := by decide +kernel
theorem dX8_lucky_73 : decode cX8_lucky 73 = .ok (.iload_n 2, 1) := by decide +kernel
theorem dX8_lucky_74 : decode cX8_lucky 74 = .ok (.invokevirtual 126, 3) := by decide +kernel
theorem dX8_lucky_77 : decode cX8_lucky 77 = .ok (.ifCond .eq 6, 3) := by decide +kernel
theorem dX8_lucky_80 : decode cX8_lucky 80 = .ok (.bipush (-7), 2) := by decide +kernel
theorem dX8_lucky_82 : decode cX8_lucky 82 = .ok (.ireturn, 1) := by decide +kernel
theorem dX8_lucky_83 : decode cX8_lucky 83 = .ok (.aload 4, 2) := by decide +kernel
theorem dX8_lucky_85 : decode cX8_lucky 85 = .ok (.getfield 108, 3) := by decide +kernel
theorem dX8_lucky_88 : decode cX8_lucky 88 = .ok (.iload 5, 2) := by decide +kernel
theorem dX8_lucky_90 : decode cX8_lucky 90 = .ok (.iload_n 3, 1) := by decide +kernel
theorem dX8_lucky_91 : decode cX8_lucky 91 = .ok (.iastore, 1) := by decide +kernel
theorem dX8_lucky_92 : decode cX8_lucky 92 = .ok (.aload 4, 2) := by decide +kernel
theorem dX8_lucky_94 : decode cX8_lucky 94 = .ok (.getfield 83, 3) := by decide +kernel
theorem dX8_lucky_97 : decode cX8_lucky 97 = .ok (.iload_n 3, 1) := by decide +kernel
theorem dX8_lucky_98 : decode cX8_lucky 98 = .ok (.iconst 1, 1) := by decide +kernel
theorem dX8_lucky_99 : decode cX8_lucky 99 = .ok (.bastore, 1) := by decide +kernel
theorem dX8_lucky_100 : decode cX8_lucky 100 = .ok (.iconst 1, 1) := by decide +kernel
theorem dX8_lucky_101 : decode cX8_lucky 101 = .ok (.ireturn, 1) := by decide +kernel
theorem dX8_side_0 : decode cX8_side 0 = .ok (.aload_n 0, 1) := by decide +kernel
theorem dX8_side_1 : decode cX8_side 1 = .ok (.getfield 10, 3) := by decide +kernel
theorem dX8_side_4 : decode cX8_side 4 = .ok (.iload_n 1, 1) := by decide +kernel
theorem dX8_side_5 : decode cX8_side 5 = .ok (.invokevirtual 129, 3) := by decide +kernel
theorem dX8_side_8 : decode cX8_side 8 = .ok (.astore_n 3, 1) := by decide +kernel
theorem dX8_side_9 : decode cX8_side 9 = .ok (.aload_n 3, 1) := by decide +kernel
theorem dX8_side_10 : decode cX8_side 10 = .ok (.ifnull 10, 3) := by decide +kernel
theorem dX8_side_13 : decode cX8_side 13 = .ok (.iload_n 2, 1) := by decide +kernel
theorem dX8_side_14 : decode cX8_side 14 = .ok (.invokestatic 132, 3) := by decide +kernel
theorem dX8_side_17 : decode cX8_side 17 = .ok (.ifCond .ne 5, 3) := by decide +kernel
theorem dX8_side_20 : decode cX8_side 20 = .ok (.iconst (-1), 1) := by decide +kernel
theorem dX8_side_21 : decode cX8_side 21 = .ok (.ireturn, 1) := by decide +kernel
theorem dX8_side_22 : decode cX8_side 22 = .ok (.aload_n 3, 1) := by decide +kernel
theorem dX8_side_23 : decode cX8_side 23 = .ok (.iload_n 1, 1) := by decide +kernel
theorem dX8_side_24 : decode cX8_side 24 = .ok (.invokestatic 135, 3) := by decide +kernel
theorem dX8_side_27 : decode cX8_side 27 = .ok (.iload_n 2, 1) := by decide +kernel
theorem dX8_side_28 : decode cX8_side 28 = .ok (.invokevirtual 138, 3) := by decide +kernel
theorem dX8_side_31 : decode cX8_side 31 = .ok (.istore 4, 2) := by decide +kernel
theorem dX8_side_33 : decode cX8_side 33 = .ok (.iload 4, 2) := by decide +kernel
theorem dX8_side_35 : decode cX8_side 35 = .ok (.ifCond .ge 7, 3) := by decide +kernel
theorem dX8_side_38 : decode cX8_side 38 = .ok (.iconst (-1), 1) := by decide +kernel
theorem dX8_side_39 : decode cX8_side 39 = .ok (.goto 5, 3) := by decide +kernel
theorem dX8_side_42 : decode cX8_side 42 = .ok (.iload 4, 2) := by decide +kernel
theorem dX8_side_44 : decode cX8_side 44 = .ok (.ireturn, 1) := by decide +kernel
theorem dX8_point_0 : decode cX8_point 0 = .ok (.aload_n 0, 1) := by decide +kernel
theorem dX8_point_1 : decode cX8_point 1 = .ok (.getfield 10, 3) := by decide +kernel
theorem dX8_point_4 : decode cX8_point 4 = .ok (.iload_n 1, 1) := by decide +kernel
theorem dX8_point_5 : decode cX8_point 5 = .ok (.invokevirtual 129, 3) := by decide +kernel
theorem dX8_point_8 : decode cX8_point 8 = .ok (.astore_n 3, 1) := by decide +kernel
theorem dX8_point_9 : decode cX8_point 9 = .ok (.aload_n 3, 1) := by decide +kernel
theorem dX8_point_10 : decode cX8_point 10 = .ok (.ifnull 10, 3) := by decide +kernel
theorem dX8_point_13 : decode cX8_point 13 = .ok (.iload_n 2, 1) := by decide +kernel
theorem dX8_point_14 : decode cX8_point 14 = .ok (.invokestatic 132, 3) := by decide +kernel
theorem dX8_point_17 : decode cX8_point 17 = .ok (.ifCond .ne 5, 3) := by decide +kernel
theorem dX8_point_20 : decode cX8_point 20 = .ok (.iconst (-1), 1) := by decide +kernel
theorem dX8_point_21 : decode cX8_point 21 = .ok (.ireturn, 1) := by decide +kernel
theorem dX8_point_22 : decode cX8_point 22 = .ok (.iload_n 1, 1) := by decide +kernel
theorem dX8_point_23 : decode cX8_point 23 = .ok (.invokestatic 135, 3) := by decide +kernel
theorem dX8_point_26 : decode cX8_point 26 = .ok (.istore 4, 2) := by decide +kernel
theorem dX8_point_28 : decode cX8_point 28 = .ok (.aload_n 3, 1) := by decide +kernel
theorem dX8_point_29 : decode cX8_point 29 = .ok (.iload 4, 2) := by decide +kernel
theorem dX8_point_31 : decode cX8_point 31 = .ok (.invokestatic 141, 3) := by decide +kernel
theorem dX8_point_34 : decode cX8_point 34 = .ok (.istore 5, 2) := by decide +kernel
theorem dX8_point_36 : decode cX8_point 36 = .ok (.iload 5, 2) := by decide +kernel
theorem dX8_point_38 : decode cX8_point 38 = .ok (.ifCond .eq 6, 3) := by decide +kernel
theorem dX8_point_41 : decode cX8_point 41 = .ok (.iload 5, 2) := by decide +kernel
theorem dX8_point_43 : decode cX8_point 43 = .ok (.ireturn, 1) := by decide +kernel
theorem dX8_point_44 : decode cX8_point 44 = .ok (.aload_n 3, 1) := by decide +kernel
theorem dX8_point_45 : decode cX8_point 45 = .ok (.getfield 145, 3) := by decide +kernel
theorem dX8_point_48 : decode cX8_point 48 = .ok (.iload 4, 2) := by decide +kernel
theorem dX8_point_50 : decode cX8_point 50 = .ok (.iaload, 1) := by decide +kernel
theorem dX8_point_51 : decode cX8_point 51 = .ok (.sipush 300, 3) := by decide +kernel
theorem dX8_point_54 : decode cX8_point 54 = .ok (.if_icmp .lt 6, 3) := by decide +kernel
theorem dX8_point_57 : decode cX8_point 57 = .ok (.bipush (-2), 2) := by decide +kernel
theorem dX8_point_59 : decode cX8_point 59 = .ok (.ireturn, 1) := by decide +kernel
theorem dX8_point_60 : decode cX8_point 60 = .ok (.aload_n 0, 1) := by decide +kernel
theorem dX8_point_61 : decode cX8_point 61 = .ok (.getfield 26, 3) := by decide +kernel
theorem dX8_point_64 : decode cX8_point 64 = .ok (.aload_n 3, 1) := by decide +kernel
theorem dX8_point_65 : decode cX8_point 65 = .ok (.iload 4, 2) := by decide +kernel
theorem dX8_point_67 : decode cX8_point 67 = .ok (.invokevirtual 148, 3) := by decide +kernel
theorem dX8_point_70 : decode cX8_point 70 = .ok (.aload_n 0, 1) := by decide +kernel
theorem dX8_point_71 : decode cX8_point 71 = .ok (.getfield 26, 3) := by decide +kernel
theorem dX8_point_74 : decode cX8_point 74 = .ok (.iload_n 2, 1) := by decide +kernel
theorem dX8_point_75 : decode cX8_point 75 = .ok (.invokevirtual 152, 3) := by decide +kernel
theorem dX8_point_78 : decode cX8_point 78 = .ok (.istore 6, 2) := by decide +kernel
theorem dX8_point_80 : decode cX8_point 80 = .ok (.aload_n 3, 1) := by decide +kernel
theorem dX8_point_81 : decode cX8_point 81 = .ok (.iload 4, 2) := by decide +kernel
theorem dX8_point_83 : decode cX8_point 83 = .ok (.iload_n 2, 1) := by decide +kernel
theorem dX8_point_84 : decode cX8_point 84 = .ok (.invokevirtual 155, 3) := by decide +kernel
theorem dX8_point_87 : decode cX8_point 87 = .ok (.iload 6, 2) := by decide +kernel
theorem dX8_point_89 : decode cX8_point 89 = .ok (.iconst 3, 1) := by decide +kernel
theorem dX8_point_90 : decode cX8_point 90 = .ok (.if_icmp .ne 11, 3) := by decide +kernel
theorem dX8_point_93 : decode cX8_point 93 = .ok (.aload_n 3, 1) := by decide +kernel
theorem dX8_point_94 : decode cX8_point 94 = .ok (.iload 4, 2) := by decide +kernel
theorem dX8_point_96 : decode cX8_point 96 = .ok (.iconst 3, 1) := by decide +kernel
theorem dX8_point_97 : decode cX8_point 97 = .ok (.iload_n 2, 1) := by decide +kernel
theorem dX8_point_98 : decode cX8_point 98 = .ok (.invokevirtual 158, 3) := by decide +kernel
theorem dX8_point_101 : decode cX8_point 101 = .ok (.iload 6, 2) := by decide +kernel
theorem dX8_point_103 : decode cX8_point 103 = .ok (.ireturn, 1) := by decide +kernel
theorem dX8_back_0 : decode cX8_back 0 = .ok (.aload_n 0, 1) := by decide +kernel
theorem dX8_back_1 : decode cX8_back 1 = .ok (.getfield 10, 3) := by decide +kernel
theorem dX8_back_4 : decode cX8_back 4 = .ok (.iload_n 1, 1) := by decide +kernel
theorem dX8_back_5 : decode cX8_back 5 = .ok (.invokevirtual 129, 3) := by decide +kernel
theorem dX8_back_8 : decode cX8_back 8 = .ok (.astore_n 2, 1) := by decide +kernel
theorem dX8_back_9 : decode cX8_back 9 = .ok (.aload_n 2, 1) := by decide +kernel
theorem dX8_back_10 : decode cX8_back 10 = .ok (.ifnonnull 5, 3) := by decide +kernel
theorem dX8_back_13 : decode cX8_back 13 = .ok (.iconst (-1), 1) := by decide +kernel
theorem dX8_back_14 : decode cX8_back 14 = .ok (.ireturn, 1) := by decide +kernel
theorem dX8_back_15 : decode cX8_back 15 = .ok (.iload_n 1, 1) := by decide +kernel
theorem dX8_back_16 : decode cX8_back 16 = .ok (.invokestatic 135, 3) := by decide +kernel
theorem dX8_back_19 : decode cX8_back 19 = .ok (.istore_n 3, 1) := by decide +kernel
theorem dX8_back_20 : decode cX8_back 20 = .ok (.aload_n 2, 1) := by decide +kernel
theorem dX8_back_21 : decode cX8_back 21 = .ok (.getfield 162, 3) := by decide +kernel
theorem dX8_back_24 : decode cX8_back 24 = .ok (.iload_n 3, 1) := by decide +kernel
theorem dX8_back_25 : decode cX8_back 25 = .ok (.iaload, 1) := by decide +kernel
theorem dX8_back_26 : decode cX8_back 26 = .ok (.ifCond .eq 7, 3) := by decide +kernel
theorem dX8_back_29 : decode cX8_back 29 = .ok (.iconst 1, 1) := by decide +kernel
theorem dX8_back_30 : decode cX8_back 30 = .ok (.goto 4, 3) := by decide +kernel
theorem dX8_back_33 : decode cX8_back 33 = .ok (.iconst 0, 1) := by decide +kernel
theorem dX8_back_34 : decode cX8_back 34 = .ok (.istore 4, 2) := by decide +kernel
theorem dX8_back_36 : decode cX8_back 36 = .ok (.iload 4, 2) := by decide +kernel
theorem dX8_back_38 : decode cX8_back 38 = .ok (.ifCond .eq 16, 3) := by decide +kernel
theorem dX8_back_41 : decode cX8_back 41 = .ok (.aload_n 2, 1) := by decide +kernel
theorem dX8_back_42 : decode cX8_back 42 = .ok (.getfield 162, 3) := by decide +kernel
theorem dX8_back_45 : decode cX8_back 45 = .ok (.iload_n 3, 1) := by decide +kernel
theorem dX8_back_46 : decode cX8_back 46 = .ok (.iaload, 1) := by decide +kernel
theorem dX8_back_47 : decode cX8_back 47 = .ok (.iconst 3, 1) := by decide +kernel
theorem dX8_back_48 : decode cX8_back 48 = .ok (.if_icmp .eq 6, 3) := by decide +kernel
theorem dX8_back_51 : decode cX8_back 51 = .ok (.bipush (-6), 2) := by decide +kernel
theorem dX8_back_53 : decode cX8_back 53 = .ok (.ireturn, 1) := by decide +kernel
theorem dX8_back_54 : decode cX8_back 54 = .ok (.aload_n 2, 1) := by decide +kernel
theorem dX8_back_55 : decode cX8_back 55 = .ok (.getfield 145, 3) := by decide +kernel
theorem dX8_back_58 : decode cX8_back 58 = .ok (.iload_n 3, 1) := by decide +kernel
theorem dX8_back_59 : decode cX8_back 59 = .ok (.iaload, 1) := by decide +kernel
theorem dX8_back_60 : decode cX8_back 60 = .ok (.ifCond .ne 6, 3) := by decide +kernel
theorem dX8_back_63 : decode cX8_back 63 = .ok (.bipush (-5), 2) := by decide +kernel
theorem dX8_back_65 : decode cX8_back 65 = .ok (.ireturn, 1) := by decide +kernel
theorem dX8_back_66 : decode cX8_back 66 = .ok (.iload 4, 2) := by decide +kernel
theorem dX8_back_68 : decode cX8_back 68 = .ok (.ifCond .eq 14, 3) := by decide +kernel
theorem dX8_back_71 : decode cX8_back 71 = .ok (.aload_n 2, 1) := by decide +kernel
theorem dX8_back_72 : decode cX8_back 72 = .ok (.iload_n 3, 1) := by decide +kernel
theorem dX8_back_73 : decode cX8_back 73 = .ok (.invokevirtual 165, 3) := by decide +kernel
theorem dX8_back_76 : decode cX8_back 76 = .ok (.ifCond .eq 6, 3) := by decide +kernel
theorem dX8_back_79 : decode cX8_back 79 = .ok (.bipush (-7), 2) := by decide +kernel
theorem dX8_back_81 : decode cX8_back 81 = .ok (.ireturn, 1) := by decide +kernel
theorem dX8_back_82 : decode cX8_back 82 = .ok (.iload 4, 2) := by decide +kernel
theorem dX8_back_84 : decode cX8_back 84 = .ok (.ifCond .eq 8, 3) := by decide +kernel
theorem dX8_back_87 : decode cX8_back 87 = .ok (.aload_n 2, 1) := by decide +kernel
theorem dX8_back_88 : decode cX8_back 88 = .ok (.iload_n 3, 1) := by decide +kernel
theorem dX8_back_89 : decode cX8_back 89 = .ok (.invokevirtual 168, 3) := by decide +kernel
theorem dX8_back_92 : decode cX8_back 92 = .ok (.aload_n 2, 1) := by decide +kernel
theorem dX8_back_93 : decode cX8_back 93 = .ok (.getfield 145, 3) := by decide +kernel
theorem dX8_back_96 : decode cX8_back 96 = .ok (.iload_n 3, 1) := by decide +kernel
theorem dX8_back_97 : decode cX8_back 97 = .ok (.dup2, 1) := by decide +kernel
theorem dX8_back_98 : decode cX8_back 98 = .ok (.iaload, 1) := by decide +kernel
theorem dX8_back_99 : decode cX8_back 99 = .ok (.iconst 1, 1) := by decide +kernel
theorem dX8_back_100 : decode cX8_back 100 = .ok (.isub, 1) := by decide +kernel
theorem dX8_back_101 : decode cX8_back 101 = .ok (.iastore, 1) := by decide +kernel
theorem dX8_back_102 : decode cX8_back 102 = .ok (.aload_n 2, 1) := by decide +kernel
theorem dX8_back_103 : decode cX8_back 103 = .ok (.getfield 145, 3) := by decide +kernel
theorem dX8_back_106 : decode cX8_back 106 = .ok (.iload_n 3, 1) := by decide +kernel
theorem dX8_back_107 : decode cX8_back 107 = .ok (.iaload, 1) := by decide +kernel
theorem dX8_back_108 : decode cX8_back 108 = .ok (.ireturn, 1) := by decide +kernel
theorem dX8_walk_0 : decode cX8_walk 0 = .ok (.aload_n 0, 1) := by decide +kernel
theorem dX8_walk_1 : decode cX8_walk 1 = .ok (.getfield 10, 3) := by decide +kernel
theorem dX8_walk_4 : decode cX8_walk 4 = .ok (.iload_n 1, 1) := by decide +kernel
theorem dX8_walk_5 : decode cX8_walk 5 = .ok (.invokevirtual 129, 3) := by decide +kernel
theorem dX8_walk_8 : decode cX8_walk 8 = .ok (.astore_n 3, 1) := by decide +kernel
theorem dX8_walk_9 : decode cX8_walk 9 = .ok (.aload_n 3, 1) := by decide +kernel
theorem dX8_walk_10 : decode cX8_walk 10 = .ok (.ifnull 10, 3) := by decide +kernel
theorem dX8_walk_13 : decode cX8_walk 13 = .ok (.iload_n 2, 1) := by decide +kernel
theorem dX8_walk_14 : decode cX8_walk 14 = .ok (.invokestatic 132, 3) := by decide +kernel
theorem dX8_walk_17 : decode cX8_walk 17 = .ok (.ifCond .ne 5, 3) := by decide +kernel
theorem dX8_walk_20 : decode cX8_walk 20 = .ok (.iconst (-1), 1) := by decide +kernel
theorem dX8_walk_21 : decode cX8_walk 21 = .ok (.ireturn, 1) := by decide +kernel
theorem dX8_walk_22 : decode cX8_walk 22 = .ok (.iload_n 1, 1) := by decide +kernel
theorem dX8_walk_23 : decode cX8_walk 23 = .ok (.invokestatic 135, 3) := by decide +kernel
theorem dX8_walk_26 : decode cX8_walk 26 = .ok (.istore 4, 2) := by decide +kernel
theorem dX8_walk_28 : decode cX8_walk 28 = .ok (.aload_n 3, 1) := by decide +kernel
theorem dX8_walk_29 : decode cX8_walk 29 = .ok (.iload 4, 2) := by decide +kernel
theorem dX8_walk_31 : decode cX8_walk 31 = .ok (.invokestatic 141, 3) := by decide +kernel
theorem dX8_walk_34 : decode cX8_walk 34 = .ok (.istore 5, 2) := by decide +kernel
theorem dX8_walk_36 : decode cX8_walk 36 = .ok (.iload 5, 2) := by decide +kernel
theorem dX8_walk_38 : decode cX8_walk 38 = .ok (.ifCond .eq 6, 3) := by decide +kernel
theorem dX8_walk_41 : decode cX8_walk 41 = .ok (.iload 5, 2) := by decide +kernel
theorem dX8_walk_43 : decode cX8_walk 43 = .ok (.ireturn, 1) := by decide +kernel
theorem dX8_walk_44 : decode cX8_walk 44 = .ok (.aload_n 3, 1) := by decide +kernel
theorem dX8_walk_45 : decode cX8_walk 45 = .ok (.getfield 145, 3) := by decide +kernel
theorem dX8_walk_48 : decode cX8_walk 48 = .ok (.iload 4, 2) := by decide +kernel
theorem dX8_walk_50 : decode cX8_walk 50 = .ok (.iaload, 1) := by decide +kernel
theorem dX8_walk_51 : decode cX8_walk 51 = .ok (.ifCond .le 6, 3) := by decide +kernel
theorem dX8_walk_54 : decode cX8_walk 54 = .ok (.bipush (-4), 2) := by decide +kernel
theorem dX8_walk_56 : decode cX8_walk 56 = .ok (.ireturn, 1) := by decide +kernel
theorem dX8_walk_57 : decode cX8_walk 57 = .ok (.aload_n 3, 1) := by decide +kernel
theorem dX8_walk_58 : decode cX8_walk 58 = .ok (.iload 4, 2) := by decide +kernel
theorem dX8_walk_60 : decode cX8_walk 60 = .ok (.iconst 4, 1) := by decide +kernel
theorem dX8_walk_61 : decode cX8_walk 61 = .ok (.iload_n 2, 1) := by decide +kernel
theorem dX8_walk_62 : decode cX8_walk 62 = .ok (.invokevirtual 158, 3) := by decide +kernel
theorem dX8_walk_65 : decode cX8_walk 65 = .ok (.iconst 1, 1) := by decide +kernel
theorem dX8_walk_66 : decode cX8_walk 66 = .ok (.ireturn, 1) := by decide +kernel
theorem dX8_retire_0 : decode cX8_retire 0 = .ok (.aload_n 0, 1) := by decide +kernel
theorem dX8_retire_1 : decode cX8_retire 1 = .ok (.getfield 10, 3) := by decide +kernel
theorem dX8_retire_4 : decode cX8_retire 4 = .ok (.iload_n 1, 1) := by decide +kernel
theorem dX8_retire_5 : decode cX8_retire 5 = .ok (.invokevirtual 129, 3) := by decide +kernel
theorem dX8_retire_8 : decode cX8_retire 8 = .ok (.astore_n 3, 1) := by decide +kernel
theorem dX8_retire_9 : decode cX8_retire 9 = .ok (.aload_n 3, 1) := by decide +kernel
theorem dX8_retire_10 : decode cX8_retire 10 = .ok (.ifnull 10, 3) := by decide +kernel
theorem dX8_retire_13 : decode cX8_retire 13 = .ok (.iload_n 2, 1) := by decide +kernel
theorem dX8_retire_14 : decode cX8_retire 14 = .ok (.invokestatic 132, 3) := by decide +kernel
theorem dX8_retire_17 : decode cX8_retire 17 = .ok (.ifCond .ne 5, 3) := by decide +kernel
theorem dX8_retire_20 : decode cX8_retire 20 = .ok (.iconst (-1), 1) := by decide +kernel
theorem dX8_retire_21 : decode cX8_retire 21 = .ok (.ireturn, 1) := by decide +kernel
theorem dX8_retire_22 : decode cX8_retire 22 = .ok (.iload_n 1, 1) := by decide +kernel
theorem dX8_retire_23 : decode cX8_retire 23 = .ok (.invokestatic 135, 3) := by decide +kernel
theorem dX8_retire_26 : decode cX8_retire 26 = .ok (.istore 4, 2) := by decide +kernel
theorem dX8_retire_28 : decode cX8_retire 28 = .ok (.aload_n 3, 1) := by decide +kernel
theorem dX8_retire_29 : decode cX8_retire 29 = .ok (.iload 4, 2) := by decide +kernel
theorem dX8_retire_31 : decode cX8_retire 31 = .ok (.invokestatic 141, 3) := by decide +kernel
theorem dX8_retire_34 : decode cX8_retire 34 = .ok (.istore 5, 2) := by decide +kernel
theorem dX8_retire_36 : decode cX8_retire 36 = .ok (.iload 5, 2) := by decide +kernel
theorem dX8_retire_38 : decode cX8_retire 38 = .ok (.ifCond .eq 6, 3) := by decide +kernel
theorem dX8_retire_41 : decode cX8_retire 41 = .ok (.iload 5, 2) := by decide +kernel
theorem dX8_retire_43 : decode cX8_retire 43 = .ok (.ireturn, 1) := by decide +kernel
theorem dX8_retire_44 : decode cX8_retire 44 = .ok (.aload_n 3, 1) := by decide +kernel
theorem dX8_retire_45 : decode cX8_retire 45 = .ok (.getfield 145, 3) := by decide +kernel
theorem dX8_retire_48 : decode cX8_retire 48 = .ok (.iload 4, 2) := by decide +kernel
theorem dX8_retire_50 : decode cX8_retire 50 = .ok (.iaload, 1) := by decide +kernel
theorem dX8_retire_51 : decode cX8_retire 51 = .ok (.ifCond .ne 6, 3) := by decide +kernel
theorem dX8_retire_54 : decode cX8_retire 54 = .ok (.bipush (-4), 2) := by decide +kernel
theorem dX8_retire_56 : decode cX8_retire 56 = .ok (.ireturn, 1) := by decide +kernel
theorem dX8_retire_57 : decode cX8_retire 57 = .ok (.aload_n 3, 1) := by decide +kernel
theorem dX8_retire_58 : decode cX8_retire 58 = .ok (.iload 4, 2) := by decide +kernel
theorem dX8_retire_60 : decode cX8_retire 60 = .ok (.iconst 5, 1) := by decide +kernel
theorem dX8_retire_61 : decode cX8_retire 61 = .ok (.iconst 1, 1) := by decide +kernel
theorem dX8_retire_62 : decode cX8_retire 62 = .ok (.iload_n 2, 1) := by decide +kernel
theorem dX8_retire_63 : decode cX8_retire 63 = .ok (.isub, 1) := by decide +kernel
theorem dX8_retire_64 : decode cX8_retire 64 = .ok (.invokevirtual 158, 3) := by decide +kernel
theorem dX8_retire_67 : decode cX8_retire 67 = .ok (.iconst 1, 1) := by decide +kernel
theorem dX8_retire_68 : decode cX8_retire 68 = .ok (.ireturn, 1) := by decide +kernel
theorem dX8_undo_0 : decode cX8_undo 0 = .ok (.aload_n 0, 1) := by decide +kernel
theorem dX8_undo_1 : decode cX8_undo 1 = .ok (.getfield 10, 3) := by decide +kernel
theorem dX8_undo_4 : decode cX8_undo 4 = .ok (.iload_n 1, 1) := by decide +kernel
theorem dX8_undo_5 : decode cX8_undo 5 = .ok (.invokevirtual 129, 3) := by decide +kernel
theorem dX8_undo_8 : decode cX8_undo 8 = .ok (.astore_n 2, 1) := by decide +kernel
theorem dX8_undo_9 : decode cX8_undo 9 = .ok (.aload_n 2, 1) := by decide +kernel
theorem dX8_undo_10 : decode cX8_undo 10 = .ok (.ifnonnull 5, 3) := by decide +kernel
theorem dX8_undo_13 : decode cX8_undo 13 = .ok (.iconst (-1), 1) := by decide +kernel
theorem dX8_undo_14 : decode cX8_undo 14 = .ok (.ireturn, 1) := by decide +kernel
theorem dX8_undo_15 : decode cX8_undo 15 = .ok (.iload_n 1, 1) := by decide +kernel
theorem dX8_undo_16 : decode cX8_undo 16 = .ok (.invokestatic 135, 3) := by decide +kernel
theorem dX8_undo_19 : decode cX8_undo 19 = .ok (.istore_n 3, 1) := by decide +kernel
theorem dX8_undo_20 : decode cX8_undo 20 = .ok (.aload_n 2, 1) := by decide +kernel
theorem dX8_undo_21 : decode cX8_undo 21 = .ok (.getfield 162, 3) := by decide +kernel
theorem dX8_undo_24 : decode cX8_undo 24 = .ok (.iload_n 3, 1) := by decide +kernel
theorem dX8_undo_25 : decode cX8_undo 25 = .ok (.iaload, 1) := by decide +kernel
theorem dX8_undo_26 : decode cX8_undo 26 = .ok (.iconst 4, 1) := by decide +kernel
theorem dX8_undo_27 : decode cX8_undo 27 = .ok (.if_icmp .eq 16, 3) := by decide +kernel
theorem dX8_undo_30 : decode cX8_undo 30 = .ok (.aload_n 2, 1) := by decide +kernel
theorem dX8_undo_31 : decode cX8_undo 31 = .ok (.getfield 162, 3) := by decide +kernel
theorem dX8_undo_34 : decode cX8_undo 34 = .ok (.iload_n 3, 1) := by decide +kernel
theorem dX8_undo_35 : decode cX8_undo 35 = .ok (.iaload, 1) := by decide +kernel
theorem dX8_undo_36 : decode cX8_undo 36 = .ok (.iconst 5, 1) := by decide +kernel
theorem dX8_undo_37 : decode cX8_undo 37 = .ok (.if_icmp .eq 6, 3) := by decide +kernel
theorem dX8_undo_40 : decode cX8_undo 40 = .ok (.bipush (-6), 2) := by decide +kernel
theorem dX8_undo_42 : decode cX8_undo 42 = .ok (.ireturn, 1) := by decide +kernel
theorem dX8_undo_43 : decode cX8_undo 43 = .ok (.aload_n 2, 1) := by decide +kernel
theorem dX8_undo_44 : decode cX8_undo 44 = .ok (.iload_n 3, 1) := by decide +kernel
theorem dX8_undo_45 : decode cX8_undo 45 = .ok (.invokevirtual 165, 3) := by decide +kernel
theorem dX8_undo_48 : decode cX8_undo 48 = .ok (.ifCond .eq 6, 3) := by decide +kernel
theorem dX8_undo_51 : decode cX8_undo 51 = .ok (.bipush (-7), 2) := by decide +kernel
theorem dX8_undo_53 : decode cX8_undo 53 = .ok (.ireturn, 1) := by decide +kernel
theorem dX8_undo_54 : decode cX8_undo 54 = .ok (.aload_n 2, 1) := by decide +kernel
theorem dX8_undo_55 : decode cX8_undo 55 = .ok (.iload_n 3, 1) := by decide +kernel
theorem dX8_undo_56 : decode cX8_undo 56 = .ok (.invokevirtual 168, 3) := by decide +kernel
theorem dX8_undo_59 : decode cX8_undo 59 = .ok (.iconst 1, 1) := by decide +kernel
