theorem dX0_init_0 : decode cX0_init 0 = .ok (.aload_n 0, 1) := by decide +kernel
theorem dX0_init_1 : decode cX0_init 1 = .ok (.invokespecial 3, 3) := by decide +kernel
theorem dX0_init_4 : decode cX0_init 4 = .ok (.aload_n 0, 1) := by decide +kernel
theorem dX0_init_5 : decode cX0_init 5 = .ok (.bipush 40, 2) := by decide +kernel
theorem dX0_init_7 : decode cX0_init 7 = .ok (.newarray .int, 2) := by decide +kernel
theorem dX0_init_9 : decode cX0_init 9 = .ok (.putfield 9, 3) := by decide +kernel
theorem dX0_init_12 : decode cX0_init 12 = .ok (.aload_n 0, 1) := by decide +kernel
theorem dX0_init_13 : decode cX0_init 13 = .ok (.iconst 4, 1) := by decide +kernel
theorem dX0_init_14 : decode cX0_init 14 = .ok (.anewarray 15, 3) := by decide +kernel
theorem dX0_init_17 : decode cX0_init 17 = .ok (.putfield 17, 3) := by decide +kernel
theorem dX0_init_20 : decode cX0_init 20 = .ok (.aload_n 0, 1) := by decide +kernel
theorem dX0_init_21 : decode cX0_init 21 = .ok (.bipush 6, 2) := by decide +kernel
theorem dX0_init_23 : decode cX0_init 23 = .ok (.anewarray 21, 3) := by decide +kernel
theorem dX0_init_26 : decode cX0_init 26 = .ok (.putfield 23, 3) := by decide +kernel
theorem dX0_init_29 : decode cX0_init 29 = .ok (.aload_n 0, 1) := by decide +kernel
theorem dX0_init_30 : decode cX0_init 30 = .ok (.iconst 4, 1) := by decide +kernel
theorem dX0_init_31 : decode cX0_init 31 = .ok (.newarray .int, 2) := by decide +kernel
theorem dX0_init_33 : decode cX0_init 33 = .ok (.dup, 1) := by decide +kernel
theorem dX0_init_34 : decode cX0_init 34 = .ok (.iconst 0, 1) := by decide +kernel
theorem dX0_init_35 : decode cX0_init 35 = .ok (.bipush 60, 2) := by decide +kernel
theorem dX0_init_37 : decode cX0_init 37 = .ok (.iastore, 1) := by decide +kernel
theorem dX0_init_38 : decode cX0_init 38 = .ok (.dup, 1) := by decide +kernel
theorem dX0_init_39 : decode cX0_init 39 = .ok (.iconst 1, 1) := by decide +kernel
theorem dX0_init_40 : decode cX0_init 40 = .ok (.bipush 90, 2) := by decide +kernel
theorem dX0_init_42 : decode cX0_init 42 = .ok (.iastore, 1) := by decide +kernel
theorem dX0_init_43 : decode cX0_init 43 = .ok (.dup, 1) := by decide +kernel
theorem dX0_init_44 : decode cX0_init 44 = .ok (.iconst 2, 1) := by decide +kernel
theorem dX0_init_45 : decode cX0_init 45 = .ok (.sipush 150, 3) := by decide +kernel
theorem dX0_init_48 : decode cX0_init 48 = .ok (.iastore, 1) := by decide +kernel
theorem dX0_init_49 : decode cX0_init 49 = .ok (.dup, 1) := by decide +kernel
theorem dX0_init_50 : decode cX0_init 50 = .ok (.iconst 3, 1) := by decide +kernel
theorem dX0_init_51 : decode cX0_init 51 = .ok (.sipush 1300, 3) := by decide +kernel
theorem dX0_init_54 : decode cX0_init 54 = .ok (.iastore, 1) := by decide +kernel
theorem dX0_init_55 : decode cX0_init 55 = .ok (.putfield 27, 3) := by decide +kernel
theorem dX0_init_58 : decode cX0_init 58 = .ok (.aload_n 0, 1) := by decide +kernel
theorem dX0_init_59 : decode cX0_init 59 = .ok (.bipush 64, 2) := by decide +kernel
theorem dX0_init_61 : decode cX0_init 61 = .ok (.newarray .int, 2) := by decide +kernel
theorem dX0_init_63 : decode cX0_init 63 = .ok (.putfield 30, 3) := by decide +kernel
theorem dX0_init_66 : decode cX0_init 66 = .ok (.iconst 0, 1) := by decide +kernel
theorem dX0_init_67 : decode cX0_init 67 = .ok (.istore_n 1, 1) := by decide +kernel
theorem dX0_init_68 : decode cX0_init 68 = .ok (.iload_n 1, 1) := by decide +kernel
theorem dX0_init_69 : decode cX0_init 69 = .ok (.iconst 4, 1) := by decide +kernel
theorem dX0_init_70 : decode cX0_init 70 = .ok (.if_icmp .ge 22, 3) := by decide +kernel
theorem dX0_init_73 : decode cX0_init 73 = .ok (.aload_n 0, 1) := by decide +kernel
theorem dX0_init_74 : decode cX0_init 74 = .ok (.getfield 17, 3) := by decide +kernel
theorem dX0_init_77 : decode cX0_init 77 = .ok (.iload_n 1, 1) := by decide +kernel
theorem dX0_init_78 : decode cX0_init 78 = .ok (.new 15, 3) := by decide +kernel
theorem dX0_init_81 : decode cX0_init 81 = .ok (.dup, 1) := by decide +kernel
theorem dX0_init_82 : decode cX0_init 82 = .ok (.invokespecial 33, 3) := by decide +kernel
theorem dX0_init_85 : decode cX0_init 85 = .ok (.aastore, 1) := by decide +kernel
theorem dX0_init_86 : decode cX0_init 86 = .ok (.iinc 1 1, 3) := by decide +kernel
theorem dX0_init_89 : decode cX0_init 89 = .ok (.goto (-21), 3) := by decide +kernel
theorem dX0_init_92 : decode cX0_init 92 = .ok (.iconst 0, 1) := by decide +kernel
theorem dX0_init_93 : decode cX0_init 93 = .ok (.istore_n 1, 1) := by decide +kernel
theorem dX0_init_94 : decode cX0_init 94 = .ok (.iload_n 1, 1) := by decide +kernel
theorem dX0_init_95 : decode cX0_init 95 = .ok (.bipush 6, 2) := by decide +kernel
theorem dX0_init_97 : decode cX0_init 97 = .ok (.if_icmp .ge 22, 3) := by decide +kernel
theorem dX0_init_100 : decode cX0_init 100 = .ok (.aload_n 0, 1) := by decide +kernel
theorem dX0_init_101 : decode cX0_init 101 = .ok (.getfield 23, 3) := by decide +kernel
theorem dX0_init_104 : decode cX0_init 104 = .ok (.iload_n 1, 1) := by decide +kernel
theorem dX0_init_105 : decode cX0_init 105 = .ok (.new 21, 3) := by decide +kernel
theorem dX0_init_108 : decode cX0_init 108 = .ok (.dup, 1) := by decide +kernel
theorem dX0_init_109 : decode cX0_init 109 = .ok (.invokespecial 34, 3) := by decide +kernel
theorem dX0_init_112 : decode cX0_init 112 = .ok (.aastore, 1) := by decide +kernel
theorem dX0_init_113 : decode cX0_init 113 = .ok (.iinc 1 1, 3) := by decide +kernel
theorem dX0_init_116 : decode cX0_init 116 = .ok (.goto (-22), 3) := by decide +kernel
theorem dX0_init_119 : decode cX0_init 119 = .ok (.return_, 1) := by decide +kernel
theorem dX0_findDraw_0 : decode cX0_findDraw 0 = .ok (.iload_n 1, 1) := by decide +kernel
theorem dX0_findDraw_1 : decode cX0_findDraw 1 = .ok (.ifCond .lt 20, 3) := by decide +kernel
theorem dX0_findDraw_4 : decode cX0_findDraw 4 = .ok (.iload_n 1, 1) := by decide +kernel
theorem dX0_findDraw_5 : decode cX0_findDraw 5 = .ok (.iconst 4, 1) := by decide +kernel
theorem dX0_findDraw_6 : decode cX0_findDraw 6 = .ok (.if_icmp .ge 15, 3) := by decide +kernel
theorem dX0_findDraw_9 : decode cX0_findDraw 9 = .ok (.aload_n 0, 1) := by decide +kernel
theorem dX0_findDraw_10 : decode cX0_findDraw 10 = .ok (.getfield 17, 3) := by decide +kernel
theorem dX0_findDraw_13 : decode cX0_findDraw 13 = .ok (.iload_n 1, 1) := by decide +kernel
theorem dX0_findDraw_14 : decode cX0_findDraw 14 = .ok (.aaload, 1) := by decide +kernel
theorem dX0_findDraw_15 : decode cX0_findDraw 15 = .ok (.getfield 35, 3) := by decide +kernel
theorem dX0_findDraw_18 : decode cX0_findDraw 18 = .ok (.ifCond .ne 7, 3) := by decide +kernel
theorem dX0_findDraw_21 : decode cX0_findDraw 21 = .ok (.aconst_null, 1) := by decide +kernel
theorem dX0_findDraw_22 : decode cX0_findDraw 22 = .ok (.goto 9, 3) := by decide +kernel
theorem dX0_findDraw_25 : decode cX0_findDraw 25 = .ok (.aload_n 0, 1) := by decide +kernel
theorem dX0_findDraw_26 : decode cX0_findDraw 26 = .ok (.getfield 17, 3) := by decide +kernel
theorem dX0_findDraw_29 : decode cX0_findDraw 29 = .ok (.iload_n 1, 1) := by decide +kernel
theorem dX0_findDraw_30 : decode cX0_findDraw 30 = .ok (.aaload, 1) := by decide +kernel
theorem dX0_findDraw_31 : decode cX0_findDraw 31 = .ok (.areturn, 1) := by decide +kernel
theorem dX0_laidWith_0 : decode cX0_laidWith 0 = .ok (.iload_n 1, 1) := by decide +kernel
theorem dX0_laidWith_1 : decode cX0_laidWith 1 = .ok (.ifCond .lt 9, 3) := by decide +kernel
theorem dX0_laidWith_4 : decode cX0_laidWith 4 = .ok (.iload_n 1, 1) := by decide +kernel
theorem dX0_laidWith_5 : decode cX0_laidWith 5 = .ok (.bipush 64, 2) := by decide +kernel
theorem dX0_laidWith_7 : decode cX0_laidWith 7 = .ok (.if_icmp .lt 5, 3) := by decide +kernel
theorem dX0_laidWith_10 : decode cX0_laidWith 10 = .ok (.aconst_null, 1) := by decide +kernel
theorem dX0_laidWith_11 : decode cX0_laidWith 11 = .ok (.areturn, 1) := by decide +kernel
theorem dX0_laidWith_12 : decode cX0_laidWith 12 = .ok (.aload_n 0, 1) := by decide +kernel
theorem dX0_laidWith_13 : decode cX0_laidWith 13 = .ok (.getfield 17, 3) := by decide +kernel
theorem dX0_laidWith_16 : decode cX0_laidWith 16 = .ok (.iload_n 1, 1) := by decide +kernel
theorem dX0_laidWith_17 : decode cX0_laidWith 17 = .ok (.invokestatic 39, 3) := by decide +kernel
theorem dX0_laidWith_20 : decode cX0_laidWith 20 = .ok (.aaload, 1) := by decide +kernel
theorem dX0_laidWith_21 : decode cX0_laidWith 21 = .ok (.astore_n 2, 1) := by decide +kernel
theorem dX0_laidWith_22 : decode cX0_laidWith 22 = .ok (.aload_n 2, 1) := by decide +kernel
theorem dX0_laidWith_23 : decode cX0_laidWith 23 = .ok (.iload_n 1, 1) := by decide +kernel
theorem dX0_laidWith_24 : decode cX0_laidWith 24 = .ok (.invokestatic 43, 3) := by decide +kernel
theorem dX0_laidWith_27 : decode cX0_laidWith 27 = .ok (.invokevirtual 46, 3) := by decide +kernel
theorem dX0_laidWith_30 : decode cX0_laidWith 30 = .ok (.ifCond .eq 7, 3) := by decide +kernel
theorem dX0_laidWith_33 : decode cX0_laidWith 33 = .ok (.aload_n 2, 1) := by decide +kernel
theorem dX0_laidWith_34 : decode cX0_laidWith 34 = .ok (.goto 4, 3) := by decide +kernel
theorem dX0_laidWith_37 : decode cX0_laidWith 37 = .ok (.aconst_null, 1) := by decide +kernel
theorem dX0_laidWith_38 : decode cX0_laidWith 38 = .ok (.areturn, 1) := by decide +kernel
theorem dX0_findCourt_0 : decode cX0_findCourt 0 = .ok (.iload_n 1, 1) := by decide +kernel
theorem dX0_findCourt_1 : decode cX0_findCourt 1 = .ok (.ifCond .lt 9, 3) := by decide +kernel
theorem dX0_findCourt_4 : decode cX0_findCourt 4 = .ok (.iload_n 1, 1) := by decide +kernel
theorem dX0_findCourt_5 : decode cX0_findCourt 5 = .ok (.bipush 6, 2) := by decide +kernel
theorem dX0_findCourt_7 : decode cX0_findCourt 7 = .ok (.if_icmp .lt 7, 3) := by decide +kernel
theorem dX0_findCourt_10 : decode cX0_findCourt 10 = .ok (.aconst_null, 1) := by decide +kernel
theorem dX0_findCourt_11 : decode cX0_findCourt 11 = .ok (.goto 9, 3) := by decide +kernel
theorem dX0_findCourt_14 : decode cX0_findCourt 14 = .ok (.aload_n 0, 1) := by decide +kernel
theorem dX0_findCourt_15 : decode cX0_findCourt 15 = .ok (.getfield 23, 3) := by decide +kernel
theorem dX0_findCourt_18 : decode cX0_findCourt 18 = .ok (.iload_n 1, 1) := by decide +kernel
theorem dX0_findCourt_19 : decode cX0_findCourt 19 = .ok (.aaload, 1) := by decide +kernel
theorem dX0_findCourt_20 : decode cX0_findCourt 20 = .ok (.areturn, 1) := by decide +kernel
theorem dX0_isRainedOff_0 : decode cX0_isRainedOff 0 = .ok (.aload_n 0, 1) := by decide +kernel
theorem dX0_isRainedOff_1 : decode cX0_isRainedOff 1 = .ok (.getfield 50, 3) := by decide +kernel
theorem dX0_isRainedOff_4 : decode cX0_isRainedOff 4 = .ok (.ifCond .eq 14, 3) := by decide +kernel
theorem dX0_isRainedOff_7 : decode cX0_isRainedOff 7 = .ok (.aload_n 1, 1) := by decide +kernel
theorem dX0_isRainedOff_8 : decode cX0_isRainedOff 8 = .ok (.getfield 54, 3) := by decide +kernel
theorem dX0_isRainedOff_11 : decode cX0_isRainedOff 11 = .ok (.ifCond .ne 7, 3) := by decide +kernel
theorem dX0_isRainedOff_14 : decode cX0_isRainedOff 14 = .ok (.iconst 1, 1) := by decide +kernel
theorem dX0_isRainedOff_15 : decode cX0_isRainedOff 15 = .ok (.goto 4, 3) := by decide +kernel
theorem dX0_isRainedOff_18 : decode cX0_isRainedOff 18 = .ok (.iconst 0, 1) := by decide +kernel
theorem dX0_isRainedOff_19 : decode cX0_isRainedOff 19 = .ok (.ireturn, 1) := by decide +kernel
theorem dX0_isTooDark_0 : decode cX0_isTooDark 0 = .ok (.iload_n 2, 1) := by decide +kernel
theorem dX0_isTooDark_1 : decode cX0_isTooDark 1 = .ok (.aload_n 0, 1) := by decide +kernel
theorem dX0_isTooDark_2 : decode cX0_isTooDark 2 = .ok (.getfield 27, 3) := by decide +kernel
theorem dX0_isTooDark_5 : decode cX0_isTooDark 5 = .ok (.iconst 3, 1) := by decide +kernel
theorem dX0_isTooDark_6 : decode cX0_isTooDark 6 = .ok (.iaload, 1) := by decide +kernel
theorem dX0_isTooDark_7 : decode cX0_isTooDark 7 = .ok (.if_icmp .le 21, 3) := by decide +kernel
theorem dX0_isTooDark_10 : decode cX0_isTooDark 10 = .ok (.aload_n 1, 1) := by decide +kernel
theorem dX0_isTooDark_11 : decode cX0_isTooDark 11 = .ok (.getfield 57, 3) := by decide +kernel
theorem dX0_isTooDark_14 : decode cX0_isTooDark 14 = .ok (.ifCond .ne 14, 3) := by decide +kernel
theorem dX0_isTooDark_17 : decode cX0_isTooDark 17 = .ok (.aload_n 1, 1) := by decide +kernel
theorem dX0_isTooDark_18 : decode cX0_isTooDark 18 = .ok (.getfield 54, 3) := by decide +kernel
theorem dX0_isTooDark_21 : decode cX0_isTooDark 21 = .ok (.ifCond .ne 7, 3) := by decide +kernel
theorem dX0_isTooDark_24 : decode cX0_isTooDark 24 = .ok (.iconst 1, 1) := by decide +kernel
theorem dX0_isTooDark_25 : decode cX0_isTooDark 25 = .ok (.goto 4, 3) := by decide +kernel
theorem dX0_isTooDark_28 : decode cX0_isTooDark 28 = .ok (.iconst 0, 1) := by decide +kernel
theorem dX0_isTooDark_29 : decode cX0_isTooDark 29 = .ok (.ireturn, 1) := by decide +kernel
theorem dX0_foretold_0 : decode cX0_foretold 0 = .ok (.aload_n 1, 1) := by decide +kernel
theorem dX0_foretold_1 : decode cX0_foretold 1 = .ok (.getfield 60, 3) := by decide +kernel
theorem dX0_foretold_4 : decode cX0_foretold 4 = .ok (.iconst 2, 1) := by decide +kernel
theorem dX0_foretold_5 : decode cX0_foretold 5 = .ok (.if_icmp .ne 12, 3) := by decide +kernel
theorem dX0_foretold_8 : decode cX0_foretold 8 = .ok (.aload_n 0, 1) := by decide +kernel
theorem dX0_foretold_9 : decode cX0_foretold 9 = .ok (.getfield 27, 3) := by decide +kernel
theorem dX0_foretold_12 : decode cX0_foretold 12 = .ok (.iconst 1, 1) := by decide +kernel
theorem dX0_foretold_13 : decode cX0_foretold 13 = .ok (.iaload, 1) := by decide +kernel
theorem dX0_foretold_14 : decode cX0_foretold 14 = .ok (.goto 9, 3) := by decide +kernel
theorem dX0_foretold_17 : decode cX0_foretold 17 = .ok (.aload_n 0, 1) := by decide +kernel
theorem dX0_foretold_18 : decode cX0_foretold 18 = .ok (.getfield 27, 3) := by decide +kernel
theorem dX0_foretold_21 : decode cX0_foretold 21 = .ok (.iconst 2, 1) := by decide +kernel
theorem dX0_foretold_22 : decode cX0_foretold 22 = .ok (.iaload, 1) := by decide +kernel
theorem dX0_foretold_23 : decode cX0_foretold 23 = .ok (.ireturn, 1) := by decide +kernel
theorem dX1_init_0 : decode cX1_init 0 = .ok (.aload_n 0, 1) := by decide +kernel
theorem dX1_init_1 : decode cX1_init 1 = .ok (.invokespecial 3, 3) := by decide +kernel
theorem dX1_init_4 : decode cX1_init 4 = .ok (.aload_n 0, 1) := by decide +kernel
theorem dX1_init_5 : decode cX1_init 5 = .ok (.bipush 6, 2) := by decide +kernel
theorem dX1_init_7 : decode cX1_init 7 = .ok (.newarray .int, 2) := by decide +kernel
theorem dX1_init_9 : decode cX1_init 9 = .ok (.putfield 9, 3) := by decide +kernel
theorem dX1_init_12 : decode cX1_init 12 = .ok (.aload_n 0, 1) := by decide +kernel
theorem dX1_init_13 : decode cX1_init 13 = .ok (.sipush 600, 3) := by decide +kernel
theorem dX1_init_16 : decode cX1_init 16 = .ok (.putfield 15, 3) := by decide +kernel
theorem dX1_init_19 : decode cX1_init 19 = .ok (.return_, 1) := by decide +kernel
theorem dX1_hasSlot_0 : decode cX1_hasSlot 0 = .ok (.iload_n 1, 1) := by decide +kernel
theorem dX1_hasSlot_1 : decode cX1_hasSlot 1 = .ok (.ifCond .lt 15, 3) := by decide +kernel
theorem dX1_hasSlot_4 : decode cX1_hasSlot 4 = .ok (.iload_n 1, 1) := by decide +kernel
theorem dX1_hasSlot_5 : decode cX1_hasSlot 5 = .ok (.aload_n 0, 1) := by decide +kernel
theorem dX1_hasSlot_6 : decode cX1_hasSlot 6 = .ok (.getfield 19, 3) := by decide +kernel
theorem dX1_hasSlot_9 : decode cX1_hasSlot 9 = .ok (.if_icmp .ge 7, 3) := by decide +kernel
theorem dX1_hasSlot_12 : decode cX1_hasSlot 12 = .ok (.iconst 1, 1) := by decide +kernel
theorem dX1_hasSlot_13 : decode cX1_hasSlot 13 = .ok (.goto 4, 3) := by decide +kernel
theorem dX1_hasSlot_16 : decode cX1_hasSlot 16 = .ok (.iconst 0, 1) := by decide +kernel
theorem dX1_hasSlot_17 : decode cX1_hasSlot 17 = .ok (.ireturn, 1) := by decide +kernel
theorem dX1_addSlot_0 : decode cX1_addSlot 0 = .ok (.aload_n 0, 1) := by decide +kernel
theorem dX1_addSlot_1 : decode cX1_addSlot 1 = .ok (.getfield 19, 3) := by decide +kernel
theorem dX1_addSlot_4 : decode cX1_addSlot 4 = .ok (.bipush 6, 2) := by decide +kernel
theorem dX1_addSlot_6 : decode cX1_addSlot 6 = .ok (.if_icmp .lt 6, 3) := by decide +kernel
theorem dX1_addSlot_9 : decode cX1_addSlot 9 = .ok (.bipush (-2), 2) := by decide +kernel
theorem dX1_addSlot_11 : decode cX1_addSlot 11 = .ok (.ireturn, 1) := by decide +kernel
theorem dX1_addSlot_12 : decode cX1_addSlot 12 = .ok (.aload_n 0, 1) := by decide +kernel
theorem dX1_addSlot_13 : decode cX1_addSlot 13 = .ok (.getfield 9, 3) := by decide +kernel
theorem dX1_addSlot_16 : decode cX1_addSlot 16 = .ok (.aload_n 0, 1) := by decide +kernel
theorem dX1_addSlot_17 : decode cX1_addSlot 17 = .ok (.getfield 19, 3) := by decide +kernel
theorem dX1_addSlot_20 : decode cX1_addSlot 20 = .ok (.iload_n 1, 1) := by decide +kernel
theorem dX1_addSlot_21 : decode cX1_addSlot 21 = .ok (.iastore, 1) := by decide +kernel
theorem dX1_addSlot_22 : decode cX1_addSlot 22 = .ok (.aload_n 0, 1) := by decide +kernel
theorem dX1_addSlot_23 : decode cX1_addSlot 23 = .ok (.dup, 1) := by decide +kernel
theorem dX1_addSlot_24 : decode cX1_addSlot 24 = .ok (.getfield 19, 3) := by decide +kernel
theorem dX1_addSlot_27 : decode cX1_addSlot 27 = .ok (.iconst 1, 1) := by decide +kernel
theorem dX1_addSlot_28 : decode cX1_addSlot 28 = .ok (.iadd, 1) := by decide +kernel
theorem dX1_addSlot_29 : decode cX1_addSlot 29 = .ok (.putfield 19, 3) := by decide +kernel
theorem dX1_addSlot_32 : decode cX1_addSlot 32 = .ok (.aload_n 0, 1) := by decide +kernel
theorem dX1_addSlot_33 : decode cX1_addSlot 33 = .ok (.getfield 19, 3) := by decide +kernel
theorem dX1_addSlot_36 : decode cX1_addSlot 36 = .ok (.iconst 1, 1) := by decide +kernel
theorem dX1_addSlot_37 : decode cX1_addSlot 37 = .ok (.isub, 1) := by decide +kernel
theorem dX1_addSlot_38 : decode cX1_addSlot 38 = .ok (.ireturn, 1) := by decide +kernel
theorem dX1_removeSlot_0 : decode cX1_removeSlot 0 = .ok (.aload_n 0, 1) := by decide +kernel
theorem dX1_removeSlot_1 : decode cX1_removeSlot 1 = .ok (.dup, 1) := by decide +kernel
theorem dX1_removeSlot_2 : decode cX1_removeSlot 2 = .ok (.getfield 19, 3) := by decide +kernel
theorem dX1_removeSlot_5 : decode cX1_removeSlot 5 = .ok (.iconst 1, 1) := by decide +kernel
theorem dX1_removeSlot_6 : decode cX1_removeSlot 6 = .ok (.isub, 1) := by decide +kernel
theorem dX1_removeSlot_7 : decode cX1_removeSlot 7 = .ok (.putfield 19, 3) := by decide +kernel
theorem dX1_removeSlot_10 : decode cX1_removeSlot 10 = .ok (.iload_n 1, 1) := by decide +kernel
theorem dX1_removeSlot_11 : decode cX1_removeSlot 11 = .ok (.istore_n 2, 1) := by decide +kernel
theorem dX1_removeSlot_12 : decode cX1_removeSlot 12 = .ok (.iload_n 2, 1) := by decide +kernel
theorem dX1_removeSlot_13 : decode cX1_removeSlot 13 = .ok (.aload_n 0, 1) := by decide +kernel
theorem dX1_removeSlot_14 : decode cX1_removeSlot 14 = .ok (.getfield 19, 3) := by decide +kernel
theorem dX1_removeSlot_17 : decode cX1_removeSlot 17 = .ok (.if_icmp .ge 23, 3) := by decide +kernel
theorem dX1_removeSlot_20 : decode cX1_removeSlot 20 = .ok (.aload_n 0, 1) := by decide +kernel
theorem dX1_removeSlot_21 : decode cX1_removeSlot 21 = .ok (.getfield 9, 3) := by decide +kernel
theorem dX1_removeSlot_24 : decode cX1_removeSlot 24 = .ok (.iload_n 2, 1) := by decide +kernel
theorem dX1_removeSlot_25 : decode cX1_removeSlot 25 = .ok (.aload_n 0, 1) := by decide +kernel
theorem dX1_removeSlot_26 : decode cX1_removeSlot 26 = .ok (.getfield 9, 3) := by decide +kernel
theorem dX1_removeSlot_29 : decode cX1_removeSlot 29 = .ok (.iload_n 2, 1) := by decide +kernel
theorem dX1_removeSlot_30 : decode cX1_removeSlot 30 = .ok (.iconst 1, 1) := by decide +kernel
theorem dX1_removeSlot_31 : decode cX1_removeSlot 31 = .ok (.iadd, 1) := by decide +kernel
theorem dX1_removeSlot_32 : decode cX1_removeSlot 32 = .ok (.iaload, 1) := by decide +kernel
theorem dX1_removeSlot_33 : decode cX1_removeSlot 33 = .ok (.iastore, 1) := by decide +kernel
theorem dX1_removeSlot_34 : decode cX1_removeSlot 34 = .ok (.iinc 2 1, 3) := by decide +kernel
theorem dX1_removeSlot_37 : decode cX1_removeSlot 37 = .ok (.goto (-25), 3) := by decide +kernel
theorem dX1_removeSlot_40 : decode cX1_removeSlot 40 = .ok (.return_, 1) := by decide +kernel
theorem dX2_init_0 : decode cX2_init 0 = .ok (.aload_n 0, 1) := by decide +kernel
theorem dX2_init_1 : decode cX2_init 1 = .ok (.invokespecial 3, 3) := by decide +kernel
theorem dX2_init_4 : decode cX2_init 4 = .ok (.aload_n 0, 1) := by decide +kernel
theorem dX2_init_5 : decode cX2_init 5 = .ok (.bipush 16, 2) := by decide +kernel
theorem dX2_init_7 : decode cX2_init 7 = .ok (.newarray .int, 2) := by decide +kernel
theorem dX2_init_9 : decode cX2_init 9 = .ok (.putfield 9, 3) := by decide +kernel
theorem dX2_init_12 : decode cX2_init 12 = .ok (.aload_n 0, 1) := by decide +kernel
theorem dX2_init_13 : decode cX2_init 13 = .ok (.bipush 16, 2) := by decide +kernel
theorem dX2_init_15 : decode cX2_init 15 = .ok (.newarray .int, 2) := by decide +kernel
theorem dX2_init_17 : decode cX2_init 17 = .ok (.putfield 15, 3) := by decide +kernel
theorem dX2_init_20 : decode cX2_init 20 = .ok (.aload_n 0, 1) := by decide +kernel
theorem dX2_init_21 : decode cX2_init 21 = .ok (.bipush 40, 2) := by decide +kernel
theorem dX2_init_23 : decode cX2_init 23 = .ok (.newarray .boolean, 2) := by decide +kernel
theorem dX2_init_25 : decode cX2_init 25 = .ok (.putfield 18, 3) := by decide +kernel
theorem dX2_init_28 : decode cX2_init 28 = .ok (.aload_n 0, 1) := by decide +kernel
theorem dX2_init_29 : decode cX2_init 29 = .ok (.bipush 16, 2) := by decide +kernel
theorem dX2_init_31 : decode cX2_init 31 = .ok (.newarray .int, 2) := by decide +kernel
theorem dX2_init_33 : decode cX2_init 33 = .ok (.putfield 22, 3) := by decide +kernel
theorem dX2_init_36 : decode cX2_init 36 = .ok (.aload_n 0, 1) := by decide +kernel
theorem dX2_init_37 : decode cX2_init 37 = .ok (.bipush 16, 2) := by decide +kernel
theorem dX2_init_39 : decode cX2_init 39 = .ok (.newarray .int, 2) := by decide +kernel
theorem dX2_init_41 : decode cX2_init 41 = .ok (.putfield 25, 3) := by decide +kernel
theorem dX2_init_44 : decode cX2_init 44 = .ok (.aload_n 0, 1) := by decide +kernel
theorem dX2_init_45 : decode cX2_init 45 = .ok (.bipush 16, 2) := by decide +kernel
theorem dX2_init_47 : decode cX2_init 47 = .ok (.newarray .int, 2) := by decide +kernel
theorem dX2_init_49 : decode cX2_init 49 = .ok (.putfield 28, 3) := by decide +kernel
theorem dX2_init_52 : decode cX2_init 52 = .ok (.aload_n 0, 1) := by decide +kernel
theorem dX2_init_53 : decode cX2_init 53 = .ok (.bipush 16, 2) := by decide +kernel
theorem dX2_init_55 : decode cX2_init 55 = .ok (.newarray .int, 2) := by decide +kernel
theorem dX2_init_57 : decode cX2_init 57 = .ok (.putfield 31, 3) := by decide +kernel
theorem dX2_init_60 : decode cX2_init 60 = .ok (.aload_n 0, 1) := by decide +kernel
theorem dX2_init_61 : decode cX2_init 61 = .ok (.sipush 160, 3) := by decide +kernel
theorem dX2_init_64 : decode cX2_init 64 = .ok (.newarray .int, 2) := by decide +kernel
theorem dX2_init_66 : decode cX2_init 66 = .ok (.putfield 34, 3) := by decide +kernel
theorem dX2_init_69 : decode cX2_init 69 = .ok (.return_, 1) := by decide +kernel
theorem dX2_renew_0 : decode cX2_renew 0 = .ok (.aload_n 0, 1) := by decide +kernel
theorem dX2_renew_1 : decode cX2_renew 1 = .ok (.iload_n 1, 1) := by decide +kernel
theorem dX2_renew_2 : decode cX2_renew 2 = .ok (.putfield 37, 3) := by decide +kernel
theorem dX2_renew_5 : decode cX2_renew 5 = .ok (.aload_n 0, 1) := by decide +kernel
theorem dX2_renew_6 : decode cX2_renew 6 = .ok (.iload_n 2, 1) := by decide +kernel
theorem dX2_renew_7 : decode cX2_renew 7 = .ok (.putfield 41, 3) := by decide +kernel
theorem dX2_renew_10 : decode cX2_renew 10 = .ok (.aload_n 0, 1) := by decide +kernel
theorem dX2_renew_11 : decode cX2_renew 11 = .ok (.iconst 0, 1) := by decide +kernel
theorem dX2_renew_12 : decode cX2_renew 12 = .ok (.putfield 44, 3) := by decide +kernel
theorem dX2_renew_15 : decode cX2_renew 15 = .ok (.aload_n 0, 1) := by decide +kernel
theorem dX2_renew_16 : decode cX2_renew 16 = .ok (.iconst 0, 1) := by decide +kernel
theorem dX2_renew_17 : decode cX2_renew 17 = .ok (.putfield 47, 3) := by decide +kernel
theorem dX2_renew_20 : decode cX2_renew 20 = .ok (.aload_n 0, 1) := by decide +kernel
theorem dX2_renew_21 : decode cX2_renew 21 = .ok (.iconst 0, 1) := by decide +kernel
theorem dX2_renew_22 : decode cX2_renew 22 = .ok (.putfield 50, 3) := by decide +kernel
theorem dX2_renew_25 : decode cX2_renew 25 = .ok (.iconst 0, 1) := by decide +kernel
theorem dX2_renew_26 : decode cX2_renew 26 = .ok (.istore_n 3, 1) := by decide +kernel
theorem dX2_renew_27 : decode cX2_renew 27 = .ok (.iload_n 3, 1) := by decide +kernel
theorem dX2_renew_28 : decode cX2_renew 28 = .ok (.bipush 40, 2) := by decide +kernel
theorem dX2_renew_30 : decode cX2_renew 30 = .ok (.if_icmp .ge 16, 3) := by decide +kernel
theorem dX2_renew_33 : decode cX2_renew 33 = .ok (.aload_n 0, 1) := by decide +kernel
theorem dX2_renew_34 : decode cX2_renew 34 = .ok (.getfield 18, 3) := by decide +kernel
theorem dX2_renew_37 : decode cX2_renew 37 = .ok (.iload_n 3, 1) := by decide +kernel
theorem dX2_renew_38 : decode cX2_renew 38 = .ok (.iconst 0, 1) := by decide +kernel
theorem dX2_renew_39 : decode cX2_renew 39 = .ok (.bastore, 1) := by decide +kernel
theorem dX2_renew_40 : decode cX2_renew 40 = .ok (.iinc 3 1, 3) := by decide +kernel
theorem dX2_renew_43 : decode cX2_renew 43 = .ok (.goto (-16), 3) := by decide +kernel
theorem dX2_renew_46 : decode cX2_renew 46 = .ok (.iconst 0, 1) := by decide +kernel
theorem dX2_renew_47 : decode cX2_renew 47 = .ok (.istore_n 3, 1) := by decide +kernel
theorem dX2_renew_48 : decode cX2_renew 48 = .ok (.iload_n 3, 1) := by decide +kernel
theorem dX2_renew_49 : decode cX2_renew 49 = .ok (.bipush 16, 2) := by decide +kernel
theorem dX2_renew_51 : decode cX2_renew 51 = .ok (.if_icmp .ge 45, 3) := by decide +kernel
theorem dX2_renew_54 : decode cX2_renew 54 = .ok (.aload_n 0, 1) := by decide +kernel
theorem dX2_renew_55 : decode cX2_renew 55 = .ok (.getfield 15, 3) := by decide +kernel
theorem dX2_renew_58 : decode cX2_renew 58 = .ok (.iload_n 3, 1) := by decide +kernel
theorem dX2_renew_59 : decode cX2_renew 59 = .ok (.bipush (-2), 2) := by decide +kernel
theorem dX2_renew_61 : decode cX2_renew 61 = .ok (.iastore, 1) := by decide +kernel
theorem dX2_renew_62 : decode cX2_renew 62 = .ok (.aload_n 0, 1) := by decide +kernel
theorem dX2_renew_63 : decode cX2_renew 63 = .ok (.getfield 22, 3) := by decide +kernel
theorem dX2_renew_66 : decode cX2_renew 66 = .ok (.iload_n 3, 1) := by decide +kernel
theorem dX2_renew_67 : decode cX2_renew 67 = .ok (.iconst 0, 1) := by decide +kernel
theorem dX2_renew_68 : decode cX2_renew 68 = .ok (.iastore, 1) := by decide +kernel
theorem dX2_renew_69 : decode cX2_renew 69 = .ok (.aload_n 0, 1) := by decide +kernel
theorem dX2_renew_70 : decode cX2_renew 70 = .ok (.getfield 25, 3) := by decide +kernel
theorem dX2_renew_73 : decode cX2_renew 73 = .ok (.iload_n 3, 1) := by decide +kernel
theorem dX2_renew_74 : decode cX2_renew 74 = .ok (.iconst 0, 1) := by decide +kernel
theorem dX2_renew_75 : decode cX2_renew 75 = .ok (.iastore, 1) := by decide +kernel
theorem dX2_renew_76 : decode cX2_renew 76 = .ok (.aload_n 0, 1) := by decide +kernel
theorem dX2_renew_77 : decode cX2_renew 77 = .ok (.getfield 28, 3) := by decide +kernel
theorem dX2_renew_80 : decode cX2_renew 80 = .ok (.iload_n 3, 1) := by decide +kernel
theorem dX2_renew_81 : decode cX2_renew 81 = .ok (.iconst (-1), 1) := by decide +kernel
theorem dX2_renew_82 : decode cX2_renew 82 = .ok (.iastore, 1) := by decide +kernel
theorem dX2_renew_83 : decode cX2_renew 83 = .ok (.aload_n 0, 1) := by decide +kernel
theorem dX2_renew_84 : decode cX2_renew 84 = .ok (.getfield 31, 3) := by decide +kernel
theorem dX2_renew_87 : decode cX2_renew 87 = .ok (.iload_n 3, 1) := by decide +kernel
theorem dX2_renew_88 : decode cX2_renew 88 = .ok (.iconst 0, 1) := by decide +kernel
theorem dX2_renew_89 : decode cX2_renew 89 = .ok (.iastore, 1) := by decide +kernel
theorem dX2_renew_90 : decode cX2_renew 90 = .ok (.iinc 3 1, 3) := by decide +kernel
theorem dX2_renew_93 : decode cX2_renew 93 = .ok (.goto (-45), 3) := by decide +kernel
theorem dX2_renew_96 : decode cX2_renew 96 = .ok (.return_, 1) := by decide +kernel
theorem dX2_admit_0 : decode cX2_admit 0 = .ok (.aload_n 0, 1) := by decide +kernel
theorem dX2_admit_1 : decode cX2_admit 1 = .ok (.getfield 9, 3) := by decide +kernel
theorem dX2_admit_4 : decode cX2_admit 4 = .ok (.aload_n 0, 1) := by decide +kernel
theorem dX2_admit_5 : decode cX2_admit 5 = .ok (.getfield 44, 3) := by decide +kernel
theorem dX2_admit_8 : decode cX2_admit 8 = .ok (.iload_n 1, 1) := by decide +kernel
theorem dX2_admit_9 : decode cX2_admit 9 = .ok (.iastore, 1) := by decide +kernel
theorem dX2_admit_10 : decode cX2_admit 10 = .ok (.aload_n 0, 1) := by decide +kernel
theorem dX2_admit_11 : decode cX2_admit 11 = .ok (.getfield 18, 3) := by decide +kernel
theorem dX2_admit_14 : decode cX2_admit 14 = .ok (.iload_n 1, 1) := by decide +kernel
theorem dX2_admit_15 : decode cX2_admit 15 = .ok (.iconst 1, 1) := by decide +kernel
theorem dX2_admit_16 : decode cX2_admit 16 = .ok (.bastore, 1) := by decide +kernel
theorem dX2_admit_17 : decode cX2_admit 17 = .ok (.aload_n 0, 1) := by decide +kernel
theorem dX2_admit_18 : decode cX2_admit 18 = .ok (.dup, 1) := by decide +kernel
theorem dX2_admit_19 : decode cX2_admit 19 = .ok (.getfield 44, 3) := by decide +kernel
theorem dX2_admit_22 : decode cX2_admit 22 = .ok (.iconst 1, 1) := by decide +kernel
theorem dX2_admit_23 : decode cX2_admit 23 = .ok (.iadd, 1) := by decide +kernel
theorem dX2_admit_24 : decode cX2_admit 24 = .ok (.putfield 44, 3) := by decide +kernel
theorem dX2_admit_27 : decode cX2_admit 27 = .ok (.return_, 1) := by decide +kernel
theorem dX2_open_0 : decode cX2_open 0 = .ok (.aload_n 0, 1) := by decide +kernel
theorem dX2_open_1 : decode cX2_open 1 = .ok (.iconst 1, 1) := by decide +kernel
theorem dX2_open_2 : decode cX2_open 2 = .ok (.putfield 50, 3) := by decide +kernel
theorem dX2_open_5 : decode cX2_open 5 = .ok (.iconst 0, 1) := by decide +kernel
theorem dX2_open_6 : decode cX2_open 6 = .ok (.istore_n 1, 1) := by decide +kernel
theorem dX2_open_7 : decode cX2_open 7 = .ok (.iload_n 1, 1) := by decide +kernel
theorem dX2_open_8 : decode cX2_open 8 = .ok (.aload_n 0, 1) := by decide +kernel
theorem dX2_open_9 : decode cX2_open 9 = .ok (.getfield 37, 3) := by decide +kernel
theorem dX2_open_12 : decode cX2_open 12 = .ok (.iconst 2, 1) := by decide +kernel
theorem dX2_open_13 : decode cX2_open 13 = .ok (.idiv, 1) := by decide +kernel
theorem dX2_open_14 : decode cX2_open 14 = .ok (.if_icmp .ge 54, 3) := by decide +kernel
theorem dX2_open_17 : decode cX2_open 17 = .ok (.aload_n 0, 1) := by decide +kernel
theorem dX2_open_18 : decode cX2_open 18 = .ok (.getfield 15, 3) := by decide +kernel
theorem dX2_open_21 : decode cX2_open 21 = .ok (.iconst 2, 1) := by decide +kernel
theorem dX2_open_22 : decode cX2_open 22 = .ok (.iload_n 1, 1) := by decide +kernel
theorem dX2_open_23 : decode cX2_open 23 = .ok (.imul, 1) := by decide +kernel
theorem dX2_open_24 : decode cX2_open 24 = .ok (.iaload, 1) := by decide +kernel
theorem dX2_open_25 : decode cX2_open 25 = .ok (.iconst (-1), 1) := by decide +kernel
theorem dX2_open_26 : decode cX2_open 26 = .ok (.if_icmp .ne 14, 3) := by decide +kernel
theorem dX2_open_29 : decode cX2_open 29 = .ok (.aload_n 0, 1) := by decide +kernel
theorem dX2_open_30 : decode cX2_open 30 = .ok (.iload_n 1, 1) := by decide +kernel
theorem dX2_open_31 : decode cX2_open 31 = .ok (.bipush 6, 2) := by decide +kernel
theorem dX2_open_33 : decode cX2_open 33 = .ok (.iconst 1, 1) := by decide +kernel
theorem dX2_open_34 : decode cX2_open 34 = .ok (.invokevirtual 54, 3) := by decide +kernel
theorem dX2_open_37 : decode cX2_open 37 = .ok (.goto 25, 3) := by decide +kernel
theorem dX2_open_40 : decode cX2_open 40 = .ok (.aload_n 0, 1) := by decide +kernel
theorem dX2_open_41 : decode cX2_open 41 = .ok (.getfield 15, 3) := by decide +kernel
theorem dX2_open_44 : decode cX2_open 44 = .ok (.iconst 2, 1) := by decide +kernel
theorem dX2_open_45 : decode cX2_open 45 = .ok (.iload_n 1, 1) := by decide +kernel
theorem dX2_open_46 : decode cX2_open 46 = .ok (.imul, 1) := by decide +kernel
theorem dX2_open_47 : decode cX2_open 47 = .ok (.iconst 1, 1) := by decide +kernel
theorem dX2_open_48 : decode cX2_open 48 = .ok (.iadd, 1) := by decide +kernel
theorem dX2_open_49 : decode cX2_open 49 = .ok (.iaload, 1) := by decide +kernel
theorem dX2_open_50 : decode cX2_open 50 = .ok (.iconst (-1), 1) := by decide +kernel
theorem dX2_open_51 : decode cX2_open 51 = .ok (.if_icmp .ne 11, 3) := by decide +kernel
theorem dX2_open_54 : decode cX2_open 54 = .ok (.aload_n 0, 1) := by decide +kernel
theorem dX2_open_55 : decode cX2_open 55 = .ok (.iload_n 1, 1) := by decide +kernel
theorem dX2_open_56 : decode cX2_open 56 = .ok (.bipush 6, 2) := by decide +kernel
theorem dX2_open_58 : decode cX2_open 58 = .ok (.iconst 0, 1) := by decide +kernel
theorem dX2_open_59 : decode cX2_open 59 = .ok (.invokevirtual 54, 3) := by decide +kernel
theorem dX2_open_62 : decode cX2_open 62 = .ok (.iinc 1 1, 3) := by decide +kernel
theorem dX2_open_65 : decode cX2_open 65 = .ok (.goto (-58), 3) := by decide +kernel
theorem dX2_open_68 : decode cX2_open 68 = .ok (.return_, 1) := by decide +kernel
theorem dX2_hasMatch_0 : decode cX2_hasMatch 0 = .ok (.aload_n 0, 1) := by decide +kernel
theorem dX2_hasMatch_1 : decode cX2_hasMatch 1 = .ok (.getfield 50, 3) := by decide +kernel
theorem dX2_hasMatch_4 : decode cX2_hasMatch 4 = .ok (.ifCond .eq 21, 3) := by decide +kernel
theorem dX2_hasMatch_7 : decode cX2_hasMatch 7 = .ok (.iload_n 1, 1) := by decide +kernel
theorem dX2_hasMatch_8 : decode cX2_hasMatch 8 = .ok (.ifCond .lt 17, 3) := by decide +kernel
theorem dX2_hasMatch_11 : decode cX2_hasMatch 11 = .ok (.iload_n 1, 1) := by decide +kernel
theorem dX2_hasMatch_12 : decode cX2_hasMatch 12 = .ok (.aload_n 0, 1) := by decide +kernel
theorem dX2_hasMatch_13 : decode cX2_hasMatch 13 = .ok (.getfield 37, 3) := by decide +kernel
theorem dX2_hasMatch_16 : decode cX2_hasMatch 16 = .ok (.iconst 1, 1) := by decide +kernel
theorem dX2_hasMatch_17 : decode cX2_hasMatch 17 = .ok (.isub, 1) := by decide +kernel
theorem dX2_hasMatch_18 : decode cX2_hasMatch 18 = .ok (.if_icmp .ge 7, 3) := by decide +kernel
theorem dX2_hasMatch_21 : decode cX2_hasMatch 21 = .ok (.iconst 1, 1) := by decide +kernel
theorem dX2_hasMatch_22 : decode cX2_hasMatch 22 = .ok (.goto 4, 3) := by decide +kernel
theorem dX2_hasMatch_25 : decode cX2_hasMatch 25 = .ok (.iconst 0, 1) := by decide +kernel
theorem dX2_hasMatch_26 : decode cX2_hasMatch 26 = .ok (.ireturn, 1) := by decide +kernel
theorem dX2_feeder_0 : decode cX2_feeder 0 = .ok (.iload_n 1, 1) := by decide +kernel
theorem dX2_feeder_1 : decode cX2_feeder 1 = .ok (.aload_n 0, 1) := by decide +kernel
theorem dX2_feeder_2 : decode cX2_feeder 2 = .ok (.getfield 37, 3) := by decide +kernel
theorem dX2_feeder_5 : decode cX2_feeder 5 = .ok (.iconst 2, 1) := by decide +kernel
theorem dX2_feeder_6 : decode cX2_feeder 6 = .ok (.idiv, 1) := by decide +kernel
theorem dX2_feeder_7 : decode cX2_feeder 7 = .ok (.if_icmp .ge 7, 3) := by decide +kernel
theorem dX2_feeder_10 : decode cX2_feeder 10 = .ok (.iconst (-1), 1) := by decide +kernel
theorem dX2_feeder_11 : decode cX2_feeder 11 = .ok (.goto 15, 3) := by decide +kernel
theorem dX2_feeder_14 : decode cX2_feeder 14 = .ok (.iconst 2, 1) := by decide +kernel
theorem dX2_feeder_15 : decode cX2_feeder 15 = .ok (.iload_n 1, 1) := by decide +kernel
theorem dX2_feeder_16 : decode cX2_feeder 16 = .ok (.aload_n 0, 1) := by decide +kernel
theorem dX2_feeder_17 : decode cX2_feeder 17 = .ok (.getfield 37, 3) := by decide +kernel
theorem dX2_feeder_20 : decode cX2_feeder 20 = .ok (.iconst 2, 1) := by decide +kernel
theorem dX2_feeder_21 : decode cX2_feeder 21 = .ok (.idiv, 1) := by decide +kernel
theorem dX2_feeder_22 : decode cX2_feeder 22 = .ok (.isub, 1) := by decide +kernel
theorem dX2_feeder_23 : decode cX2_feeder 23 = .ok (.imul, 1) := by decide +kernel
theorem dX2_feeder_24 : decode cX2_feeder 24 = .ok (.iload_n 2, 1) := by decide +kernel
theorem dX2_feeder_25 : decode cX2_feeder 25 = .ok (.iadd, 1) := by decide +kernel
theorem dX2_feeder_26 : decode cX2_feeder 26 = .ok (.ireturn, 1) := by decide +kernel
theorem dX2_next_0 : decode cX2_next 0 = .ok (.aload_n 0, 1) := by decide +kernel
theorem dX2_next_1 : decode cX2_next 1 = .ok (.getfield 37, 3) := by decide +kernel
theorem dX2_next_4 : decode cX2_next 4 = .ok (.iconst 2, 1) := by decide +kernel
theorem dX2_next_5 : decode cX2_next 5 = .ok (.idiv, 1) := by decide +kernel
theorem dX2_next_6 : decode cX2_next 6 = .ok (.iload_n 1, 1) := by decide +kernel
theorem dX2_next_7 : decode cX2_next 7 = .ok (.iconst 2, 1) := by decide +kernel
theorem dX2_next_8 : decode cX2_next 8 = .ok (.idiv, 1) := by decide +kernel
theorem dX2_next_9 : decode cX2_next 9 = .ok (.iadd, 1) := by decide +kernel
theorem dX2_next_10 : decode cX2_next 10 = .ok (.istore_n 2, 1) := by decide +kernel
theorem dX2_next_11 : decode cX2_next 11 = .ok (.iload_n 2, 1) := by decide +kernel
theorem dX2_next_12 : decode cX2_next 12 = .ok (.aload_n 0, 1) := by decide +kernel
theorem dX2_next_13 : decode cX2_next 13 = .ok (.getfield 37, 3) := by decide +kernel
theorem dX2_next_16 : decode cX2_next 16 = .ok (.iconst 1, 1) := by decide +kernel
theorem dX2_next_17 : decode cX2_next 17 = .ok (.isub, 1) := by decide +kernel
theorem dX2_next_18 : decode cX2_next 18 = .ok (.if_icmp .ge 7, 3) := by decide +kernel
theorem dX2_next_21 : decode cX2_next 21 = .ok (.iload_n 2, 1) := by decide +kernel
theorem dX2_next_22 : decode cX2_next 22 = .ok (.goto 4, 3) := by decide +kernel
theorem dX2_next_25 : decode cX2_next 25 = .ok (.iconst (-1), 1) := by decide +kernel
theorem dX2_next_26 : decode cX2_next 26 = .ok (.ireturn, 1) := by decide +kernel
theorem dX2_firstOf_0 : decode cX2_firstOf 0 = .ok (.aload_n 0, 1) := by decide +kernel
theorem dX2_firstOf_1 : decode cX2_firstOf 1 = .ok (.getfield 37, 3) := by decide +kernel
theorem dX2_firstOf_4 : decode cX2_firstOf 4 = .ok (.aload_n 0, 1) := by decide +kernel
theorem dX2_firstOf_5 : decode cX2_firstOf 5 = .ok (.getfield 37, 3) := by decide +kernel
theorem dX2_firstOf_8 : decode cX2_firstOf 8 = .ok (.iload_n 1, 1) := by decide +kernel
theorem dX2_firstOf_9 : decode cX2_firstOf 9 = .ok (.ishr, 1) := by decide +kernel
theorem dX2_firstOf_10 : decode cX2_firstOf 10 = .ok (.isub, 1) := by decide +kernel
theorem dX2_firstOf_11 : decode cX2_firstOf 11 = .ok (.ireturn, 1) := by decide +kernel
theorem dX2_standing_0 : decode cX2_standing 0 = .ok (.aload_n 0, 1) := by decide +kernel
theorem dX2_standing_1 : decode cX2_standing 1 = .ok (.iload_n 1, 1) := by decide +kernel
theorem dX2_standing_2 : decode cX2_standing 2 = .ok (.invokevirtual 58, 3) := by decide +kernel
theorem dX2_standing_5 : decode cX2_standing 5 = .ok (.ifCond .eq 10, 3) := by decide +kernel
theorem dX2_standing_8 : decode cX2_standing 8 = .ok (.iload_n 2, 1) := by decide +kernel
theorem dX2_standing_9 : decode cX2_standing 9 = .ok (.invokestatic 62, 3) := by decide +kernel
theorem dX2_standing_12 : decode cX2_standing 12 = .ok (.ifCond .ne 6, 3) := by decide +kernel
theorem dX2_standing_15 : decode cX2_standing 15 = .ok (.bipush (-2), 2) := by decide +kernel
theorem dX2_standing_17 : decode cX2_standing 17 = .ok (.ireturn, 1) := by decide +kernel
theorem dX2_standing_18 : decode cX2_standing 18 = .ok (.iload_n 1, 1) := by decide +kernel
theorem dX2_standing_19 : decode cX2_standing 19 = .ok (.istore_n 3, 1) := by decide +kernel
theorem dX2_standing_20 : decode cX2_standing 20 = .ok (.iload_n 2, 1) := by decide +kernel
theorem dX2_standing_21 : decode cX2_standing 21 = .ok (.istore 4, 2) := by decide +kernel
theorem dX2_standing_23 : decode cX2_standing 23 = .ok (.iconst 0, 1) := by decide +kernel
theorem dX2_standing_24 : decode cX2_standing 24 = .ok (.istore 5, 2) := by decide +kernel
theorem dX2_standing_26 : decode cX2_standing 26 = .ok (.iload 5, 2) := by decide +kernel
theorem dX2_standing_28 : decode cX2_standing 28 = .ok (.iconst 4, 1) := by decide +kernel
theorem dX2_standing_29 : decode cX2_standing 29 = .ok (.if_icmp .ge 47, 3) := by decide +kernel
theorem dX2_standing_32 : decode cX2_standing 32 = .ok (.iload_n 3, 1) := by decide +kernel
theorem dX2_standing_33 : decode cX2_standing 33 = .ok (.aload_n 0, 1) := by decide +kernel
theorem dX2_standing_34 : decode cX2_standing 34 = .ok (.getfield 37, 3) := by decide +kernel
theorem dX2_standing_37 : decode cX2_standing 37 = .ok (.iconst 2, 1) := by decide +kernel
theorem dX2_standing_38 : decode cX2_standing 38 = .ok (.idiv, 1) := by decide +kernel
theorem dX2_standing_39 : decode cX2_standing 39 = .ok (.if_icmp .lt 37, 3) := by decide +kernel
theorem dX2_standing_42 : decode cX2_standing 42 = .ok (.aload_n 0, 1) := by decide +kernel
theorem dX2_standing_43 : decode cX2_standing 43 = .ok (.iload_n 3, 1) := by decide +kernel
theorem dX2_standing_44 : decode cX2_standing 44 = .ok (.iload 4, 2) := by decide +kernel
theorem dX2_standing_46 : decode cX2_standing 46 = .ok (.invokevirtual 65, 3) := by decide +kernel
theorem dX2_standing_49 : decode cX2_standing 49 = .ok (.istore_n 3, 1) := by decide +kernel
theorem dX2_standing_50 : decode cX2_standing 50 = .ok (.aload_n 0, 1) := by decide +kernel
theorem dX2_standing_51 : decode cX2_standing 51 = .ok (.getfield 22, 3) := by decide +kernel
theorem dX2_standing_54 : decode cX2_standing 54 = .ok (.iload_n 3, 1) := by decide +kernel
theorem dX2_standing_55 : decode cX2_standing 55 = .ok (.iaload, 1) := by decide +kernel
theorem dX2_standing_56 : decode cX2_standing 56 = .ok (.ifCond .ne 6, 3) := by decide +kernel
theorem dX2_standing_59 : decode cX2_standing 59 = .ok (.bipush (-2), 2) := by decide +kernel
theorem dX2_standing_61 : decode cX2_standing 61 = .ok (.ireturn, 1) := by decide +kernel
theorem dX2_standing_62 : decode cX2_standing 62 = .ok (.aload_n 0, 1) := by decide +kernel
theorem dX2_standing_63 : decode cX2_standing 63 = .ok (.getfield 25, 3) := by decide +kernel
theorem dX2_standing_66 : decode cX2_standing 66 = .ok (.iload_n 3, 1) := by decide +kernel
theorem dX2_standing_67 : decode cX2_standing 67 = .ok (.iaload, 1) := by decide +kernel
theorem dX2_standing_68 : decode cX2_standing 68 = .ok (.istore 4, 2) := by decide +kernel
theorem dX2_standing_70 : decode cX2_standing 70 = .ok (.iinc 5 1, 3) := by decide +kernel
theorem dX2_standing_73 : decode cX2_standing 73 = .ok (.goto (-47), 3) := by decide +kernel
theorem dX2_standing_76 : decode cX2_standing 76 = .ok (.iload_n 3, 1) := by decide +kernel
theorem dX2_standing_77 : decode cX2_standing 77 = .ok (.aload_n 0, 1) := by decide +kernel
theorem dX2_standing_78 : decode cX2_standing 78 = .ok (.getfield 37, 3) := by decide +kernel
theorem dX2_standing_81 : decode cX2_standing 81 = .ok (.iconst 2, 1) := by decide +kernel
theorem dX2_standing_82 : decode cX2_standing 82 = .ok (.idiv, 1) := by decide +kernel
theorem dX2_standing_83 : decode cX2_standing 83 = .ok (.if_icmp .ge 17, 3) := by decide +kernel
theorem dX2_standing_86 : decode cX2_standing 86 = .ok (.aload_n 0, 1) := by decide +kernel
theorem dX2_standing_87 : decode cX2_standing 87 = .ok (.getfield 15, 3) := by decide +kernel
theorem dX2_standing_90 : decode cX2_standing 90 = .ok (.iconst 2, 1) := by decide +kernel
theorem dX2_standing_91 : decode cX2_standing 91 = .ok (.iload_n 3, 1) := by decide +kernel
theorem dX2_standing_92 : decode cX2_standing 92 = .ok (.imul, 1) := by decide +kernel
theorem dX2_standing_93 : decode cX2_standing 93 = .ok (.iload 4, 2) := by decide +kernel
theorem dX2_standing_95 : decode cX2_standing 95 = .ok (.iadd, 1) := by decide +kernel
theorem dX2_standing_96 : decode cX2_standing 96 = .ok (.iaload, 1) := by decide +kernel
theorem dX2_standing_97 : decode cX2_standing 97 = .ok (.goto 5, 3) := by decide +kernel
theorem dX2_standing_100 : decode cX2_standing 100 = .ok (.bipush (-2), 2) := by decide +kernel
theorem dX2_standing_102 : decode cX2_standing 102 = .ok (.ireturn, 1) := by decide +kernel
theorem dX2_isKnown_0 : decode cX2_isKnown 0 = .ok (.aload_n 0, 1) := by decide +kernel
theorem dX2_isKnown_1 : decode cX2_isKnown 1 = .ok (.iload_n 1, 1) := by decide +kernel
theorem dX2_isKnown_2 : decode cX2_isKnown 2 = .ok (.iconst 0, 1) := by decide +kernel
theorem dX2_isKnown_3 : decode cX2_isKnown 3 = .ok (.invokevirtual 69, 3) := by decide +kernel
theorem dX2_isKnown_6 : decode cX2_isKnown 6 = .ok (.bipush (-2), 2) := by decide +kernel
theorem dX2_isKnown_8 : decode cX2_isKnown 8 = .ok (.if_icmp .eq 18, 3) := by decide +kernel
theorem dX2_isKnown_11 : decode cX2_isKnown 11 = .ok (.aload_n 0, 1) := by decide +kernel
theorem dX2_isKnown_12 : decode cX2_isKnown 12 = .ok (.iload_n 1, 1) := by decide +kernel
theorem dX2_isKnown_13 : decode cX2_isKnown 13 = .ok (.iconst 1, 1) := by decide +kernel
theorem dX2_isKnown_14 : decode cX2_isKnown 14 = .ok (.invokevirtual 69, 3) := by decide +kernel
theorem dX2_isKnown_17 : decode cX2_isKnown 17 = .ok (.bipush (-2), 2) := by decide +kernel
theorem dX2_isKnown_19 : decode cX2_isKnown 19 = .ok (.if_icmp .eq 7, 3) := by decide +kernel
theorem dX2_isKnown_22 : decode cX2_isKnown 22 = .ok (.iconst 1, 1) := by decide +kernel
theorem dX2_isKnown_23 : decode cX2_isKnown 23 = .ok (.goto 4, 3) := by decide +kernel
theorem dX2_isKnown_26 : decode cX2_isKnown 26 = .ok (.iconst 0, 1) := by decide +kernel
theorem dX2_isKnown_27 : decode cX2_isKnown 27 = .ok (.ireturn, 1) := by decide +kernel
theorem dX2_sideOf_0 : decode cX2_sideOf 0 = .ok (.aload_n 0, 1) := by decide +kernel
theorem dX2_sideOf_1 : decode cX2_sideOf 1 = .ok (.iload_n 1, 1) := by decide +kernel
theorem dX2_sideOf_2 : decode cX2_sideOf 2 = .ok (.iconst 0, 1) := by decide +kernel
theorem dX2_sideOf_3 : decode cX2_sideOf 3 = .ok (.invokevirtual 69, 3) := by decide +kernel
theorem dX2_sideOf_6 : decode cX2_sideOf 6 = .ok (.iload_n 2, 1) := by decide +kernel
theorem dX2_sideOf_7 : decode cX2_sideOf 7 = .ok (.if_icmp .ne 5, 3) := by decide +kernel
theorem dX2_sideOf_10 : decode cX2_sideOf 10 = .ok (.iconst 0, 1) := by decide +kernel
theorem dX2_sideOf_11 : decode cX2_sideOf 11 = .ok (.ireturn, 1) := by decide +kernel
theorem dX2_sideOf_12 : decode cX2_sideOf 12 = .ok (.aload_n 0, 1) := by decide +kernel
theorem dX2_sideOf_13 : decode cX2_sideOf 13 = .ok (.iload_n 1, 1) := by decide +kernel
theorem dX2_sideOf_14 : decode cX2_sideOf 14 = .ok (.iconst 1, 1) := by decide +kernel
theorem dX2_sideOf_15 : decode cX2_sideOf 15 = .ok (.invokevirtual 69, 3) := by decide +kernel
theorem dX2_sideOf_18 : decode cX2_sideOf 18 = .ok (.iload_n 2, 1) := by decide +kernel
theorem dX2_sideOf_19 : decode cX2_sideOf 19 = .ok (.if_icmp .ne 7, 3) := by decide +kernel
theorem dX2_sideOf_22 : decode cX2_sideOf 22 = .ok (.iconst 1, 1) := by decide +kernel
theorem dX2_sideOf_23 : decode cX2_sideOf 23 = .ok (.goto 4, 3) := by decide +kernel
theorem dX2_sideOf_26 : decode cX2_sideOf 26 = .ok (.iconst (-1), 1) := by decide +kernel
theorem dX2_sideOf_27 : decode cX2_sideOf 27 = .ok (.ireturn, 1) := by decide +kernel
theorem dX2_placeOf_0 : decode cX2_placeOf 0 = .ok (.aload_n 0, 1) := by decide +kernel
theorem dX2_placeOf_1 : decode cX2_placeOf 1 = .ok (.getfield 50, 3) := by decide +kernel
theorem dX2_placeOf_4 : decode cX2_placeOf 4 = .ok (.ifCond .ne 5, 3) := by decide +kernel
theorem dX2_placeOf_7 : decode cX2_placeOf 7 = .ok (.iconst (-1), 1) := by decide +kernel
theorem dX2_placeOf_8 : decode cX2_placeOf 8 = .ok (.ireturn, 1) := by decide +kernel
theorem dX2_placeOf_9 : decode cX2_placeOf 9 = .ok (.iconst 0, 1) := by decide +kernel
theorem dX2_placeOf_10 : decode cX2_placeOf 10 = .ok (.istore_n 2, 1) := by decide +kernel
theorem dX2_placeOf_11 : decode cX2_placeOf 11 = .ok (.iload_n 2, 1) := by decide +kernel
theorem dX2_placeOf_12 : decode cX2_placeOf 12 = .ok (.aload_n 0, 1) := by decide +kernel
theorem dX2_placeOf_13 : decode cX2_placeOf 13 = .ok (.getfield 37, 3) := by decide +kernel
theorem dX2_placeOf_16 : decode cX2_placeOf 16 = .ok (.if_icmp .ge 21, 3) := by decide +kernel
theorem dX2_placeOf_19 : decode cX2_placeOf 19 = .ok (.aload_n 0, 1) := by decide +kernel
theorem dX2_placeOf_20 : decode cX2_placeOf 20 = .ok (.getfield 15, 3) := by decide +kernel
theorem dX2_placeOf_23 : decode cX2_placeOf 23 = .ok (.iload_n 2, 1) := by decide +kernel
theorem dX2_placeOf_24 : decode cX2_placeOf 24 = .ok (.iaload, 1) := by decide +kernel
theorem dX2_placeOf_25 : decode cX2_placeOf 25 = .ok (.iload_n 1, 1) := by decide +kernel
theorem dX2_placeOf_26 : decode cX2_placeOf 26 = .ok (.if_icmp .ne 5, 3) := by decide +kernel
theorem dX2_placeOf_29 : decode cX2_placeOf 29 = .ok (.iload_n 2, 1) := by decide +kernel
theorem dX2_placeOf_30 : decode cX2_placeOf 30 = .ok (.ireturn, 1) := by decide +kernel
theorem dX2_placeOf_31 : decode cX2_placeOf 31 = .ok (.iinc 2 1, 3) := by decide +kernel
theorem dX2_placeOf_34 : decode cX2_placeOf 34 = .ok (.goto (-23), 3) := by decide +kernel
theorem dX2_placeOf_37 : decode cX2_placeOf 37 = .ok (.iconst (-1), 1) := by decide +kernel
theorem dX2_placeOf_38 : decode cX2_placeOf 38 = .ok (.ireturn, 1) := by decide +kernel
theorem dX2_addPoint_0 : decode cX2_addPoint 0 = .ok (.aload_n 0, 1) := by decide +kernel
theorem dX2_addPoint_1 : decode cX2_addPoint 1 = .ok (.getfield 31, 3) := by decide +kernel
theorem dX2_addPoint_4 : decode cX2_addPoint 4 = .ok (.iload_n 1, 1) := by decide +kernel
theorem dX2_addPoint_5 : decode cX2_addPoint 5 = .ok (.iaload, 1) := by decide +kernel
theorem dX2_addPoint_6 : decode cX2_addPoint 6 = .ok (.istore_n 3, 1) := by decide +kernel
theorem dX2_addPoint_7 : decode cX2_addPoint 7 = .ok (.iload_n 1, 1) := by decide +kernel
theorem dX2_addPoint_8 : decode cX2_addPoint 8 = .ok (.bipush 10, 2) := by decide +kernel
theorem dX2_addPoint_10 : decode cX2_addPoint 10 = .ok (.imul, 1) := by decide +kernel
theorem dX2_addPoint_11 : decode cX2_addPoint 11 = .ok (.iload_n 3, 1) := by decide +kernel
theorem dX2_addPoint_12 : decode cX2_addPoint 12 = .ok (.bipush 32, 2) := by decide +kernel
theorem dX2_addPoint_14 : decode cX2_addPoint 14 = .ok (.idiv, 1) := by decide +kernel
theorem dX2_addPoint_15 : decode cX2_addPoint 15 = .ok (.iadd, 1) := by decide +kernel
theorem dX2_addPoint_16 : decode cX2_addPoint 16 = .ok (.istore 4, 2) := by decide +kernel
theorem dX2_addPoint_18 : decode cX2_addPoint 18 = .ok (.iconst 1, 1) := by decide +kernel
theorem dX2_addPoint_19 : decode cX2_addPoint 19 = .ok (.iload_n 3, 1) := by decide +kernel
theorem dX2_addPoint_20 : decode cX2_addPoint 20 = .ok (.bipush 32, 2) := by decide +kernel
theorem dX2_addPoint_22 : decode cX2_addPoint 22 = .ok (.irem, 1) := by decide +kernel
theorem dX2_addPoint_23 : decode cX2_addPoint 23 = .ok (.ishl, 1) := by decide +kernel
theorem dX2_addPoint_24 : decode cX2_addPoint 24 = .ok (.istore 5, 2) := by decide +kernel
theorem dX2_addPoint_26 : decode cX2_addPoint 26 = .ok (.aload_n 0, 1) := by decide +kernel
theorem dX2_addPoint_27 : decode cX2_addPoint 27 = .ok (.getfield 34, 3) := by decide +kernel
theorem dX2_addPoint_30 : decode cX2_addPoint 30 = .ok (.iload 4, 2) := by decide +kernel
theorem dX2_addPoint_32 : decode cX2_addPoint 32 = .ok (.iload_n 2, 1) := by decide +kernel
theorem dX2_addPoint_33 : decode cX2_addPoint 33 = .ok (.iconst 1, 1) := by decide +kernel
theorem dX2_addPoint_34 : decode cX2_addPoint 34 = .ok (.if_icmp .ne 16, 3) := by decide +kernel
theorem dX2_addPoint_37 : decode cX2_addPoint 37 = .ok (.aload_n 0, 1) := by decide +kernel
theorem dX2_addPoint_38 : decode cX2_addPoint 38 = .ok (.getfield 34, 3) := by decide +kernel
theorem dX2_addPoint_41 : decode cX2_addPoint 41 = .ok (.iload 4, 2) := by decide +kernel
theorem dX2_addPoint_43 : decode cX2_addPoint 43 = .ok (.iaload, 1) := by decide +kernel
theorem dX2_addPoint_44 : decode cX2_addPoint 44 = .ok (.iload 5, 2) := by decide +kernel
theorem dX2_addPoint_46 : decode cX2_addPoint 46 = .ok (.ior, 1) := by decide +kernel
theorem dX2_addPoint_47 : decode cX2_addPoint 47 = .ok (.goto 15, 3) := by decide +kernel
theorem dX2_addPoint_50 : decode cX2_addPoint 50 = .ok (.aload_n 0, 1) := by decide +kernel
theorem dX2_addPoint_51 : decode cX2_addPoint 51 = .ok (.getfield 34, 3) := by decide +kernel
theorem dX2_addPoint_54 : decode cX2_addPoint 54 = .ok (.iload 4, 2) := by decide +kernel
theorem dX2_addPoint_56 : decode cX2_addPoint 56 = .ok (.iaload, 1) := by decide +kernel
theorem dX2_addPoint_57 : decode cX2_addPoint 57 = .ok (.iload 5, 2) := by decide +kernel
theorem dX2_addPoint_59 : decode cX2_addPoint 59 = .ok (.iconst (-1), 1) := by decide +kernel
theorem dX2_addPoint_60 : decode cX2_addPoint 60 = .ok (.ixor, 1) := by decide +kernel
theorem dX2_addPoint_61 : decode cX2_addPoint 61 = .ok (.iand, 1) := by decide +kernel
theorem dX2_addPoint_62 : decode cX2_addPoint 62 = .ok (.iastore, 1) := by decide +kernel
theorem dX2_addPoint_63 : decode cX2_addPoint 63 = .ok (.aload_n 0, 1) := by decide +kernel
theorem dX2_addPoint_64 : decode cX2_addPoint 64 = .ok (.getfield 31, 3) := by decide +kernel
theorem dX2_addPoint_67 : decode cX2_addPoint 67 = .ok (.iload_n 1, 1) := by decide +kernel
theorem dX2_addPoint_68 : decode cX2_addPoint 68 = .ok (.dup2, 1) := by decide +kernel
theorem dX2_addPoint_69 : decode cX2_addPoint 69 = .ok (.iaload, 1) := by decide +kernel
theorem dX2_addPoint_70 : decode cX2_addPoint 70 = .ok (.iconst 1, 1) := by decide +kernel
theorem dX2_addPoint_71 : decode cX2_addPoint 71 = .ok (.iadd, 1) := by decide +kernel
theorem dX2_addPoint_72 : decode cX2_addPoint 72 = .ok (.iastore, 1) := by decide +kernel
theorem dX2_addPoint_73 : decode cX2_addPoint 73 = .ok (.return_, 1) := by decide +kernel
theorem dX2_pointOf_0 : decode cX2_pointOf 0 = .ok (.aload_n 0, 1) := by decide +kernel
theorem dX2_pointOf_1 : decode cX2_pointOf 1 = .ok (.getfield 34, 3) := by decide +kernel
theorem dX2_pointOf_4 : decode cX2_pointOf 4 = .ok (.iload_n 1, 1) := by decide +kernel
theorem dX2_pointOf_5 : decode cX2_pointOf 5 = .ok (.bipush 10, 2) := by decide +kernel
theorem dX2_pointOf_7 : decode cX2_pointOf 7 = .ok (.imul, 1) := by decide +kernel
theorem dX2_pointOf_8 : decode cX2_pointOf 8 = .ok (.iload_n 2, 1) := by decide +kernel
theorem dX2_pointOf_9 : decode cX2_pointOf 9 = .ok (.bipush 32, 2) := by decide +kernel
theorem dX2_pointOf_11 : decode cX2_pointOf 11 = .ok (.idiv, 1) := by decide +kernel
theorem dX2_pointOf_12 : decode cX2_pointOf 12 = .ok (.iadd, 1) := by decide +kernel
theorem dX2_pointOf_13 : decode cX2_pointOf 13 = .ok (.iaload, 1) := by decide +kernel
theorem dX2_pointOf_14 : decode cX2_pointOf 14 = .ok (.iload_n 2, 1) := by decide +kernel
theorem dX2_pointOf_15 : decode cX2_pointOf 15 = .ok (.bipush 32, 2) := by decide +kernel
theorem dX2_pointOf_17 : decode cX2_pointOf 17 = .ok (.irem, 1) := by decide +kernel
theorem dX2_pointOf_18 : decode cX2_pointOf 18 = .ok (.iushr, 1) := by decide +kernel
theorem dX2_pointOf_19 : decode cX2_pointOf 19 = .ok (.iconst 1, 1) := by decide +kernel
theorem dX2_pointOf_20 : decode cX2_pointOf 20 = .ok (.iand, 1) := by decide +kernel
theorem dX2_pointOf_21 : decode cX2_pointOf 21 = .ok (.ireturn, 1) := by decide +kernel
theorem dX2_finish_0 : decode cX2_finish 0 = .ok (.aload_n 0, 1) := by decide +kernel
theorem dX2_finish_1 : decode cX2_finish 1 = .ok (.getfield 22, 3) := by decide +kernel
theorem dX2_finish_4 : decode cX2_finish 4 = .ok (.iload_n 1, 1) := by decide +kernel
theorem dX2_finish_5 : decode cX2_finish 5 = .ok (.iload_n 2, 1) := by decide +kernel
theorem dX2_finish_6 : decode cX2_finish 6 = .ok (.iastore, 1) := by decide +kernel
theorem dX2_finish_7 : decode cX2_finish 7 = .ok (.aload_n 0, 1) := by decide +kernel
theorem dX2_finish_8 : decode cX2_finish 8 = .ok (.getfield 25, 3) := by decide +kernel
theorem dX2_finish_11 : decode cX2_finish 11 = .ok (.iload_n 1, 1) := by decide +kernel
theorem dX2_finish_12 : decode cX2_finish 12 = .ok (.iload_n 3, 1) := by decide +kernel
theorem dX2_finish_13 : decode cX2_finish 13 = .ok (.iastore, 1) := by decide +kernel
theorem dX2_finish_14 : decode cX2_finish 14 = .ok (.return_, 1) := by decide +kernel
theorem dX2_reopen_0 : decode cX2_reopen 0 = .ok (.aload_n 0, 1) := by decide +kernel
theorem dX2_reopen_1 : decode cX2_reopen 1 = .ok (.getfield 22, 3) := by decide +kernel
theorem dX2_reopen_4 : decode cX2_reopen 4 = .ok (.iload_n 1, 1) := by decide +kernel
theorem dX2_reopen_5 : decode cX2_reopen 5 = .ok (.iconst 0, 1) := by decide +kernel
theorem dX2_reopen_6 : decode cX2_reopen 6 = .ok (.iastore, 1) := by decide +kernel
theorem dX2_reopen_7 : decode cX2_reopen 7 = .ok (.aload_n 0, 1) := by decide +kernel
theorem dX2_reopen_8 : decode cX2_reopen 8 = .ok (.getfield 28, 3) := by decide +kernel
theorem dX2_reopen_11 : decode cX2_reopen 11 = .ok (.iload_n 1, 1) := by decide +kernel
theorem dX2_reopen_12 : decode cX2_reopen 12 = .ok (.iconst (-1), 1) := by decide +kernel
theorem dX2_reopen_13 : decode cX2_reopen 13 = .ok (.iastore, 1) := by decide +kernel
theorem dX2_reopen_14 : decode cX2_reopen 14 = .ok (.return_, 1) := by decide +kernel
theorem dX2_nextGoesOn_0 : decode cX2_nextGoesOn 0 = .ok (.aload_n 0, 1) := by decide +kernel
theorem dX2_nextGoesOn_1 : decode cX2_nextGoesOn 1 = .ok (.iload_n 1, 1) := by decide +kernel
theorem dX2_nextGoesOn_2 : decode cX2_nextGoesOn 2 = .ok (.invokevirtual 72, 3) := by decide +kernel
theorem dX2_nextGoesOn_5 : decode cX2_nextGoesOn 5 = .ok (.istore_n 2, 1) := by decide +kernel
theorem dX2_nextGoesOn_6 : decode cX2_nextGoesOn 6 = .ok (.iload_n 2, 1) := by decide +kernel
theorem dX2_nextGoesOn_7 : decode cX2_nextGoesOn 7 = .ok (.ifCond .lt 25, 3) := by decide +kernel
theorem dX2_nextGoesOn_10 : decode cX2_nextGoesOn 10 = .ok (.aload_n 0, 1) := by decide +kernel
theorem dX2_nextGoesOn_11 : decode cX2_nextGoesOn 11 = .ok (.getfield 31, 3) := by decide +kernel
theorem dX2_nextGoesOn_14 : decode cX2_nextGoesOn 14 = .ok (.iload_n 2, 1) := by decide +kernel
theorem dX2_nextGoesOn_15 : decode cX2_nextGoesOn 15 = .ok (.iaload, 1) := by decide +kernel
theorem dX2_nextGoesOn_16 : decode cX2_nextGoesOn 16 = .ok (.ifCond .gt 12, 3) := by decide +kernel
theorem dX2_nextGoesOn_19 : decode cX2_nextGoesOn 19 = .ok (.aload_n 0, 1) := by decide +kernel
theorem dX2_nextGoesOn_20 : decode cX2_nextGoesOn 20 = .ok (.getfield 22, 3) := by decide +kernel
theorem dX2_nextGoesOn_23 : decode cX2_nextGoesOn 23 = .ok (.iload_n 2, 1) := by decide +kernel
theorem dX2_nextGoesOn_24 : decode cX2_nextGoesOn 24 = .ok (.iaload, 1) := by decide +kernel
theorem dX2_nextGoesOn_25 : decode cX2_nextGoesOn 25 = .ok (.ifCond .eq 7, 3) := by decide +kernel
theorem dX2_nextGoesOn_28 : decode cX2_nextGoesOn 28 = .ok (.iconst 1, 1) := by decide +kernel
theorem dX2_nextGoesOn_29 : decode cX2_nextGoesOn 29 = .ok (.goto 4, 3) := by decide +kernel
theorem dX2_nextGoesOn_32 : decode cX2_nextGoesOn 32 = .ok (.iconst 0, 1) := by decide +kernel
theorem dX2_nextGoesOn_33 : decode cX2_nextGoesOn 33 = .ok (.ireturn, 1) := by decide +kernel
theorem dX2_countEnded_0 : decode cX2_countEnded 0 = .ok (.iconst 0, 1) := by decide +kernel
theorem dX2_countEnded_1 : decode cX2_countEnded 1 = .ok (.istore_n 3, 1) := by decide +kernel
theorem dX2_countEnded_2 : decode cX2_countEnded 2 = .ok (.iload_n 1, 1) := by decide +kernel
theorem dX2_countEnded_3 : decode cX2_countEnded 3 = .ok (.istore 4, 2) := by decide +kernel
theorem dX2_countEnded_5 : decode cX2_countEnded 5 = .ok (.iload 4, 2) := by decide +kernel
theorem dX2_countEnded_7 : decode cX2_countEnded 7 = .ok (.iload_n 2, 1) := by decide +kernel
theorem dX2_countEnded_8 : decode cX2_countEnded 8 = .ok (.if_icmp .ge 22, 3) := by decide +kernel
theorem dX2_countEnded_11 : decode cX2_countEnded 11 = .ok (.aload_n 0, 1) := by decide +kernel
theorem dX2_countEnded_12 : decode cX2_countEnded 12 = .ok (.getfield 22, 3) := by decide +kernel
theorem dX2_countEnded_15 : decode cX2_countEnded 15 = .ok (.iload 4, 2) := by decide +kernel
theorem dX2_countEnded_17 : decode cX2_countEnded 17 = .ok (.iaload, 1) := by decide +kernel
theorem dX2_countEnded_18 : decode cX2_countEnded 18 = .ok (.ifCond .eq 6, 3) := by decide +kernel
theorem dX2_countEnded_21 : decode cX2_countEnded 21 = .ok (.iinc 3 1, 3) := by decide +kernel
theorem dX2_countEnded_24 : decode cX2_countEnded 24 = .ok (.iinc 4 1, 3) := by decide +kernel
theorem dX2_countEnded_27 : decode cX2_countEnded 27 = .ok (.goto (-22), 3) := by decide +kernel
theorem dX2_countEnded_30 : decode cX2_countEnded 30 = .ok (.iload_n 3, 1) := by decide +kernel
theorem dX2_countEnded_31 : decode cX2_countEnded 31 = .ok (.ireturn, 1) := by decide +kernel
theorem dX2_countOpenRounds_0 : decode cX2_countOpenRounds 0 = .ok (.iconst 0, 1) := by decide +kernel
theorem dX2_countOpenRounds_1 : decode cX2_countOpenRounds 1 = .ok (.istore_n 1, 1) := by decide +kernel
theorem dX2_countOpenRounds_2 : decode cX2_countOpenRounds 2 = .ok (.iconst 0, 1) := by decide +kernel
theorem dX2_countOpenRounds_3 : decode cX2_countOpenRounds 3 = .ok (.istore_n 2, 1) := by decide +kernel
theorem dX2_countOpenRounds_4 : decode cX2_countOpenRounds 4 = .ok (.iload_n 2, 1) := by decide +kernel
theorem dX2_countOpenRounds_5 : decode cX2_countOpenRounds 5 = .ok (.iconst 4, 1) := by decide +kernel
theorem dX2_countOpenRounds_6 : decode cX2_countOpenRounds 6 = .ok (.if_icmp .ge 55, 3) := by decide +kernel
theorem dX2_countOpenRounds_9 : decode cX2_countOpenRounds 9 = .ok (.aload_n 0, 1) := by decide +kernel
theorem dX2_countOpenRounds_10 : decode cX2_countOpenRounds 10 = .ok (.iload_n 2, 1) := by decide +kernel
theorem dX2_countOpenRounds_11 : decode cX2_countOpenRounds 11 = .ok (.invokevirtual 76, 3) := by decide +kernel
theorem dX2_countOpenRounds_14 : decode cX2_countOpenRounds 14 = .ok (.aload_n 0, 1) := by decide +kernel
theorem dX2_countOpenRounds_15 : decode cX2_countOpenRounds 15 = .ok (.getfield 37, 3) := by decide +kernel
theorem dX2_countOpenRounds_18 : decode cX2_countOpenRounds 18 = .ok (.iconst 1, 1) := by decide +kernel
theorem dX2_countOpenRounds_19 : decode cX2_countOpenRounds 19 = .ok (.isub, 1) := by decide +kernel
theorem dX2_countOpenRounds_20 : decode cX2_countOpenRounds 20 = .ok (.if_icmp .ge 41, 3) := by decide +kernel
theorem dX2_countOpenRounds_23 : decode cX2_countOpenRounds 23 = .ok (.aload_n 0, 1) := by decide +kernel
theorem dX2_countOpenRounds_24 : decode cX2_countOpenRounds 24 = .ok (.iload_n 2, 1) := by decide +kernel
theorem dX2_countOpenRounds_25 : decode cX2_countOpenRounds 25 = .ok (.invokevirtual 76, 3) := by decide +kernel
theorem dX2_countOpenRounds_28 : decode cX2_countOpenRounds 28 = .ok (.istore_n 3, 1) := by decide +kernel
theorem dX2_countOpenRounds_29 : decode cX2_countOpenRounds 29 = .ok (.aload_n 0, 1) := by decide +kernel
theorem dX2_countOpenRounds_30 : decode cX2_countOpenRounds 30 = .ok (.iload_n 2, 1) := by decide +kernel
theorem dX2_countOpenRounds_31 : decode cX2_countOpenRounds 31 = .ok (.iconst 1, 1) := by decide +kernel
theorem dX2_countOpenRounds_32 : decode cX2_countOpenRounds 32 = .ok (.iadd, 1) := by decide +kernel
theorem dX2_countOpenRounds_33 : decode cX2_countOpenRounds 33 = .ok (.invokevirtual 76, 3) := by decide +kernel
theorem dX2_countOpenRounds_36 : decode cX2_countOpenRounds 36 = .ok (.istore 4, 2) := by decide +kernel
theorem dX2_countOpenRounds_38 : decode cX2_countOpenRounds 38 = .ok (.aload_n 0, 1) := by decide +kernel
theorem dX2_countOpenRounds_39 : decode cX2_countOpenRounds 39 = .ok (.iload_n 3, 1) := by decide +kernel
theorem dX2_countOpenRounds_40 : decode cX2_countOpenRounds 40 = .ok (.iload 4, 2) := by decide +kernel
theorem dX2_countOpenRounds_42 : decode cX2_countOpenRounds 42 = .ok (.invokevirtual 79, 3) := by decide +kernel
theorem dX2_countOpenRounds_45 : decode cX2_countOpenRounds 45 = .ok (.iload 4, 2) := by decide +kernel
theorem dX2_countOpenRounds_47 : decode cX2_countOpenRounds 47 = .ok (.iload_n 3, 1) := by decide +kernel
theorem dX2_countOpenRounds_48 : decode cX2_countOpenRounds 48 = .ok (.isub, 1) := by decide +kernel
theorem dX2_countOpenRounds_49 : decode cX2_countOpenRounds 49 = .ok (.if_icmp .ge 6, 3) := by decide +kernel
theorem dX2_countOpenRounds_52 : decode cX2_countOpenRounds 52 = .ok (.iinc 1 1, 3) := by decide +kernel
theorem dX2_countOpenRounds_55 : decode cX2_countOpenRounds 55 = .ok (.iinc 2 1, 3) := by decide +kernel
theorem dX2_countOpenRounds_58 : decode cX2_countOpenRounds 58 = .ok (.goto (-54), 3) := by decide +kernel
theorem dX2_countOpenRounds_61 : decode cX2_countOpenRounds 61 = .ok (.iload_n 1, 1) := by decide +kernel
theorem dX2_countOpenRounds_62 : decode cX2_countOpenRounds 62 = .ok (.ireturn, 1) := by decide +kernel
theorem dX2_hasBegun_0 : decode cX2_hasBegun 0 = .ok (.iconst 0, 1) := by decide +kernel
theorem dX2_hasBegun_1 : decode cX2_hasBegun 1 = .ok (.istore_n 2, 1) := by decide +kernel
theorem dX2_hasBegun_2 : decode cX2_hasBegun 2 = .ok (.iload_n 2, 1) := by decide +kernel
theorem dX2_hasBegun_3 : decode cX2_hasBegun 3 = .ok (.aload_n 0, 1) := by decide +kernel
theorem dX2_hasBegun_4 : decode cX2_hasBegun 4 = .ok (.getfield 37, 3) := by decide +kernel
theorem dX2_hasBegun_7 : decode cX2_hasBegun 7 = .ok (.iconst 1, 1) := by decide +kernel
theorem dX2_hasBegun_8 : decode cX2_hasBegun 8 = .ok (.isub, 1) := by decide +kernel
theorem dX2_hasBegun_9 : decode cX2_hasBegun 9 = .ok (.if_icmp .ge 59, 3) := by decide +kernel
theorem dX2_hasBegun_12 : decode cX2_hasBegun 12 = .ok (.aload_n 0, 1) := by decide +kernel
theorem dX2_hasBegun_13 : decode cX2_hasBegun 13 = .ok (.getfield 31, 3) := by decide +kernel
theorem dX2_hasBegun_16 : decode cX2_hasBegun 16 = .ok (.iload_n 2, 1) := by decide +kernel
theorem dX2_hasBegun_17 : decode cX2_hasBegun 17 = .ok (.iaload, 1) := by decide +kernel
theorem dX2_hasBegun_18 : decode cX2_hasBegun 18 = .ok (.ifCond .gt 23, 3) := by decide +kernel
theorem dX2_hasBegun_21 : decode cX2_hasBegun 21 = .ok (.aload_n 0, 1) := by decide +kernel
theorem dX2_hasBegun_22 : decode cX2_hasBegun 22 = .ok (.getfield 22, 3) := by decide +kernel
theorem dX2_hasBegun_25 : decode cX2_hasBegun 25 = .ok (.iload_n 2, 1) := by decide +kernel
theorem dX2_hasBegun_26 : decode cX2_hasBegun 26 = .ok (.iaload, 1) := by decide +kernel
theorem dX2_hasBegun_27 : decode cX2_hasBegun 27 = .ok (.ifCond .eq 18, 3) := by decide +kernel
theorem dX2_hasBegun_30 : decode cX2_hasBegun 30 = .ok (.aload_n 0, 1) := by decide +kernel
theorem dX2_hasBegun_31 : decode cX2_hasBegun 31 = .ok (.getfield 22, 3) := by decide +kernel
theorem dX2_hasBegun_34 : decode cX2_hasBegun 34 = .ok (.iload_n 2, 1) := by decide +kernel
theorem dX2_hasBegun_35 : decode cX2_hasBegun 35 = .ok (.iaload, 1) := by decide +kernel
theorem dX2_hasBegun_36 : decode cX2_hasBegun 36 = .ok (.bipush 6, 2) := by decide +kernel
theorem dX2_hasBegun_38 : decode cX2_hasBegun 38 = .ok (.if_icmp .eq 7, 3) := by decide +kernel
theorem dX2_hasBegun_41 : decode cX2_hasBegun 41 = .ok (.iconst 1, 1) := by decide +kernel
theorem dX2_hasBegun_42 : decode cX2_hasBegun 42 = .ok (.goto 4, 3) := by decide +kernel
theorem dX2_hasBegun_45 : decode cX2_hasBegun 45 = .ok (.iconst 0, 1) := by decide +kernel
theorem dX2_hasBegun_46 : decode cX2_hasBegun 46 = .ok (.istore_n 3, 1) := by decide +kernel
theorem dX2_hasBegun_47 : decode cX2_hasBegun 47 = .ok (.iload_n 3, 1) := by decide +kernel
theorem dX2_hasBegun_48 : decode cX2_hasBegun 48 = .ok (.ifCond .eq 14, 3) := by decide +kernel
theorem dX2_hasBegun_51 : decode cX2_hasBegun 51 = .ok (.aload_n 0, 1) := by decide +kernel
theorem dX2_hasBegun_52 : decode cX2_hasBegun 52 = .ok (.iload_n 2, 1) := by decide +kernel
theorem dX2_hasBegun_53 : decode cX2_hasBegun 53 = .ok (.iload_n 1, 1) := by decide +kernel
theorem dX2_hasBegun_54 : decode cX2_hasBegun 54 = .ok (.invokevirtual 82, 3) := by decide +kernel
theorem dX2_hasBegun_57 : decode cX2_hasBegun 57 = .ok (.ifCond .lt 5, 3) := by decide +kernel
theorem dX2_hasBegun_60 : decode cX2_hasBegun 60 = .ok (.iconst 1, 1) := by decide +kernel
theorem dX2_hasBegun_61 : decode cX2_hasBegun 61 = .ok (.ireturn, 1) := by decide +kernel
theorem dX2_hasBegun_62 : decode cX2_hasBegun 62 = .ok (.iinc 2 1, 3) := by decide +kernel
theorem dX2_hasBegun_65 : decode cX2_hasBegun 65 = .ok (.goto (-63), 3) := by decide +kernel
theorem dX2_hasBegun_68 : decode cX2_hasBegun 68 = .ok (.iconst 0, 1) := by decide +kernel
theorem dX2_hasBegun_69 : decode cX2_hasBegun 69 = .ok (.ireturn, 1) := by decide +kernel
theorem dX2_opponent_0 : decode cX2_opponent 0 = .ok (.iconst 0, 1) := by decide +kernel
theorem dX2_opponent_1 : decode cX2_opponent 1 = .ok (.istore_n 3, 1) := by decide +kernel
theorem dX2_opponent_2 : decode cX2_opponent 2 = .ok (.iconst 0, 1) := by decide +kernel
theorem dX2_opponent_3 : decode cX2_opponent 3 = .ok (.istore 4, 2) := by decide +kernel
theorem dX2_opponent_5 : decode cX2_opponent 5 = .ok (.iload 4, 2) := by decide +kernel
theorem dX2_opponent_7 : decode cX2_opponent 7 = .ok (.aload_n 0, 1) := by decide +kernel
theorem dX2_opponent_8 : decode cX2_opponent 8 = .ok (.getfield 37, 3) := by decide +kernel
theorem dX2_opponent_11 : decode cX2_opponent 11 = .ok (.iconst 1, 1) := by decide +kernel
theorem dX2_opponent_12 : decode cX2_opponent 12 = .ok (.isub, 1) := by decide +kernel
theorem dX2_opponent_13 : decode cX2_opponent 13 = .ok (.if_icmp .ge 83, 3) := by decide +kernel
theorem dX2_opponent_16 : decode cX2_opponent 16 = .ok (.aload_n 0, 1) := by decide +kernel
theorem dX2_opponent_17 : decode cX2_opponent 17 = .ok (.getfield 22, 3) := by decide +kernel
theorem dX2_opponent_20 : decode cX2_opponent 20 = .ok (.iload 4, 2) := by decide +kernel
theorem dX2_opponent_22 : decode cX2_opponent 22 = .ok (.iaload, 1) := by decide +kernel
theorem dX2_opponent_23 : decode cX2_opponent 23 = .ok (.iconst 3, 1) := by decide +kernel
theorem dX2_opponent_24 : decode cX2_opponent 24 = .ok (.if_icmp .eq 14, 3) := by decide +kernel
theorem dX2_opponent_27 : decode cX2_opponent 27 = .ok (.aload_n 0, 1) := by decide +kernel
theorem dX2_opponent_28 : decode cX2_opponent 28 = .ok (.getfield 22, 3) := by decide +kernel
theorem dX2_opponent_31 : decode cX2_opponent 31 = .ok (.iload 4, 2) := by decide +kernel
theorem dX2_opponent_33 : decode cX2_opponent 33 = .ok (.iaload, 1) := by decide +kernel
theorem dX2_opponent_34 : decode cX2_opponent 34 = .ok (.iconst 5, 1) := by decide +kernel
theorem dX2_opponent_35 : decode cX2_opponent 35 = .ok (.if_icmp .ne 7, 3) := by decide +kernel
theorem dX2_opponent_38 : decode cX2_opponent 38 = .ok (.iconst 1, 1) := by decide +kernel
theorem dX2_opponent_39 : decode cX2_opponent 39 = .ok (.goto 4, 3) := by decide +kernel
theorem dX2_opponent_42 : decode cX2_opponent 42 = .ok (.iconst 0, 1) := by decide +kernel
theorem dX2_opponent_43 : decode cX2_opponent 43 = .ok (.istore 5, 2) := by decide +kernel
theorem dX2_opponent_45 : decode cX2_opponent 45 = .ok (.iload 5, 2) := by decide +kernel
theorem dX2_opponent_47 : decode cX2_opponent 47 = .ok (.ifCond .eq 13, 3) := by decide +kernel
theorem dX2_opponent_50 : decode cX2_opponent 50 = .ok (.aload_n 0, 1) := by decide +kernel
theorem dX2_opponent_51 : decode cX2_opponent 51 = .ok (.iload 4, 2) := by decide +kernel
theorem dX2_opponent_53 : decode cX2_opponent 53 = .ok (.iload_n 1, 1) := by decide +kernel
theorem dX2_opponent_54 : decode cX2_opponent 54 = .ok (.invokevirtual 82, 3) := by decide +kernel
theorem dX2_opponent_57 : decode cX2_opponent 57 = .ok (.goto 4, 3) := by decide +kernel
theorem dX2_opponent_60 : decode cX2_opponent 60 = .ok (.iconst (-1), 1) := by decide +kernel
theorem dX2_opponent_61 : decode cX2_opponent 61 = .ok (.istore 6, 2) := by decide +kernel
theorem dX2_opponent_63 : decode cX2_opponent 63 = .ok (.iload 6, 2) := by decide +kernel
theorem dX2_opponent_65 : decode cX2_opponent 65 = .ok (.ifCond .ge 6, 3) := by decide +kernel
theorem dX2_opponent_68 : decode cX2_opponent 68 = .ok (.goto 22, 3) := by decide +kernel
theorem dX2_opponent_71 : decode cX2_opponent 71 = .ok (.iload_n 3, 1) := by decide +kernel
theorem dX2_opponent_72 : decode cX2_opponent 72 = .ok (.iload_n 2, 1) := by decide +kernel
theorem dX2_opponent_73 : decode cX2_opponent 73 = .ok (.if_icmp .ne 14, 3) := by decide +kernel
theorem dX2_opponent_76 : decode cX2_opponent 76 = .ok (.aload_n 0, 1) := by decide +kernel
theorem dX2_opponent_77 : decode cX2_opponent 77 = .ok (.iload 4, 2) := by decide +kernel
theorem dX2_opponent_79 : decode cX2_opponent 79 = .ok (.iconst 1, 1) := by decide +kernel
theorem dX2_opponent_80 : decode cX2_opponent 80 = .ok (.iload 6, 2) := by decide +kernel
theorem dX2_opponent_82 : decode cX2_opponent 82 = .ok (.isub, 1) := by decide +kernel
theorem dX2_opponent_83 : decode cX2_opponent 83 = .ok (.invokevirtual 69, 3) := by decide +kernel
theorem dX2_opponent_86 : decode cX2_opponent 86 = .ok (.ireturn, 1) := by decide +kernel
theorem dX2_opponent_87 : decode cX2_opponent 87 = .ok (.iinc 3 1, 3) := by decide +kernel
theorem dX2_opponent_90 : decode cX2_opponent 90 = .ok (.iinc 4 1, 3) := by decide +kernel
theorem dX2_opponent_93 : decode cX2_opponent 93 = .ok (.goto (-88), 3) := by decide +kernel
theorem dX2_opponent_96 : decode cX2_opponent 96 = .ok (.iconst (-1), 1) := by decide +kernel
theorem dX2_opponent_97 : decode cX2_opponent 97 = .ok (.ireturn, 1) := by decide +kernel
theorem dX2_commonRound_0 : decode cX2_commonRound 0 = .ok (.iconst 0, 1) := by decide +kernel
theorem dX2_commonRound_1 : decode cX2_commonRound 1 = .ok (.istore_n 3, 1) := by decide +kernel
theorem dX2_commonRound_2 : decode cX2_commonRound 2 = .ok (.iload_n 3, 1) := by decide +kernel
theorem dX2_commonRound_3 : decode cX2_commonRound 3 = .ok (.iconst 4, 1) := by decide +kernel
theorem dX2_commonRound_4 : decode cX2_commonRound 4 = .ok (.if_icmp .ge 22, 3) := by decide +kernel
theorem dX2_commonRound_7 : decode cX2_commonRound 7 = .ok (.iload_n 1, 1) := by decide +kernel
theorem dX2_commonRound_8 : decode cX2_commonRound 8 = .ok (.iload_n 3, 1) := by decide +kernel
theorem dX2_commonRound_9 : decode cX2_commonRound 9 = .ok (.iconst 1, 1) := by decide +kernel
theorem dX2_commonRound_10 : decode cX2_commonRound 10 = .ok (.iadd, 1) := by decide +kernel
theorem dX2_commonRound_11 : decode cX2_commonRound 11 = .ok (.ishr, 1) := by decide +kernel
theorem dX2_commonRound_12 : decode cX2_commonRound 12 = .ok (.iload_n 2, 1) := by decide +kernel
theorem dX2_commonRound_13 : decode cX2_commonRound 13 = .ok (.iload_n 3, 1) := by decide +kernel
theorem dX2_commonRound_14 : decode cX2_commonRound 14 = .ok (.iconst 1, 1) := by decide +kernel
theorem dX2_commonRound_15 : decode cX2_commonRound 15 = .ok (.iadd, 1) := by decide +kernel
theorem dX2_commonRound_16 : decode cX2_commonRound 16 = .ok (.ishr, 1) := by decide +kernel
theorem dX2_commonRound_17 : decode cX2_commonRound 17 = .ok (.if_icmp .eq 9, 3) := by decide +kernel
theorem dX2_commonRound_20 : decode cX2_commonRound 20 = .ok (.iinc 3 1, 3) := by decide +kernel
theorem dX2_commonRound_23 : decode cX2_commonRound 23 = .ok (.goto (-21), 3) := by decide +kernel
theorem dX2_commonRound_26 : decode cX2_commonRound 26 = .ok (.iload_n 3, 1) := by decide +kernel
theorem dX2_commonRound_27 : decode cX2_commonRound 27 = .ok (.ireturn, 1) := by decide +kernel
theorem dX2_isOutAhead_0 : decode cX2_isOutAhead 0 = .ok (.iconst 0, 1) := by decide +kernel
theorem dX2_isOutAhead_1 : decode cX2_isOutAhead 1 = .ok (.istore_n 3, 1) := by decide +kernel
theorem dX2_isOutAhead_2 : decode cX2_isOutAhead 2 = .ok (.iload_n 3, 1) := by decide +kernel
theorem dX2_isOutAhead_3 : decode cX2_isOutAhead 3 = .ok (.aload_n 0, 1) := by decide +kernel
theorem dX2_isOutAhead_4 : decode cX2_isOutAhead 4 = .ok (.iload_n 2, 1) := by decide +kernel
theorem dX2_isOutAhead_5 : decode cX2_isOutAhead 5 = .ok (.invokevirtual 76, 3) := by decide +kernel
theorem dX2_isOutAhead_8 : decode cX2_isOutAhead 8 = .ok (.if_icmp .ge 37, 3) := by decide +kernel
theorem dX2_isOutAhead_11 : decode cX2_isOutAhead 11 = .ok (.aload_n 0, 1) := by decide +kernel
theorem dX2_isOutAhead_12 : decode cX2_isOutAhead 12 = .ok (.getfield 22, 3) := by decide +kernel
theorem dX2_isOutAhead_15 : decode cX2_isOutAhead 15 = .ok (.iload_n 3, 1) := by decide +kernel
theorem dX2_isOutAhead_16 : decode cX2_isOutAhead 16 = .ok (.iaload, 1) := by decide +kernel
theorem dX2_isOutAhead_17 : decode cX2_isOutAhead 17 = .ok (.ifCond .eq 22, 3) := by decide +kernel
theorem dX2_isOutAhead_20 : decode cX2_isOutAhead 20 = .ok (.aload_n 0, 1) := by decide +kernel
theorem dX2_isOutAhead_21 : decode cX2_isOutAhead 21 = .ok (.iload_n 3, 1) := by decide +kernel
theorem dX2_isOutAhead_22 : decode cX2_isOutAhead 22 = .ok (.iconst 1, 1) := by decide +kernel
theorem dX2_isOutAhead_23 : decode cX2_isOutAhead 23 = .ok (.aload_n 0, 1) := by decide +kernel
theorem dX2_isOutAhead_24 : decode cX2_isOutAhead 24 = .ok (.getfield 25, 3) := by decide +kernel
theorem dX2_isOutAhead_27 : decode cX2_isOutAhead 27 = .ok (.iload_n 3, 1) := by decide +kernel
theorem dX2_isOutAhead_28 : decode cX2_isOutAhead 28 = .ok (.iaload, 1) := by decide +kernel
theorem dX2_isOutAhead_29 : decode cX2_isOutAhead 29 = .ok (.isub, 1) := by decide +kernel
theorem dX2_isOutAhead_30 : decode cX2_isOutAhead 30 = .ok (.invokevirtual 69, 3) := by decide +kernel
theorem dX2_isOutAhead_33 : decode cX2_isOutAhead 33 = .ok (.iload_n 1, 1) := by decide +kernel
theorem dX2_isOutAhead_34 : decode cX2_isOutAhead 34 = .ok (.if_icmp .ne 5, 3) := by decide +kernel
theorem dX2_isOutAhead_37 : decode cX2_isOutAhead 37 = .ok (.iconst 1, 1) := by decide +kernel
theorem dX2_isOutAhead_38 : decode cX2_isOutAhead 38 = .ok (.ireturn, 1) := by decide +kernel
theorem dX2_isOutAhead_39 : decode cX2_isOutAhead 39 = .ok (.iinc 3 1, 3) := by decide +kernel
theorem dX2_isOutAhead_42 : decode cX2_isOutAhead 42 = .ok (.goto (-40), 3) := by decide +kernel
theorem dX2_isOutAhead_45 : decode cX2_isOutAhead 45 = .ok (.iconst 0, 1) := by decide +kernel
theorem dX2_isOutAhead_46 : decode cX2_isOutAhead 46 = .ok (.ireturn, 1) := by decide +kernel
theorem dX3_init_0 : decode cX3_init 0 = .ok (.aload_n 0, 1) := by decide +kernel
theorem dX3_init_1 : decode cX3_init 1 = .ok (.invokespecial 3, 3) := by decide +kernel
theorem dX3_init_4 : decode cX3_init 4 = .ok (.aload_n 0, 1) := by decide +kernel
theorem dX3_init_5 : decode cX3_init 5 = .ok (.bipush 64, 2) := by decide +kernel
theorem dX3_init_7 : decode cX3_init 7 = .ok (.newarray .boolean, 2) := by decide +kernel
theorem dX3_init_9 : decode cX3_init 9 = .ok (.putfield 9, 3) := by decide +kernel
theorem dX3_init_12 : decode cX3_init 12 = .ok (.aload_n 0, 1) := by decide +kernel
theorem dX3_init_13 : decode cX3_init 13 = .ok (.bipush 40, 2) := by decide +kernel
theorem dX3_init_15 : decode cX3_init 15 = .ok (.newarray .boolean, 2) := by decide +kernel
theorem dX3_init_17 : decode cX3_init 17 = .ok (.putfield 15, 3) := by decide +kernel
theorem dX3_init_20 : decode cX3_init 20 = .ok (.aload_n 0, 1) := by decide +kernel
theorem dX3_init_21 : decode cX3_init 21 = .ok (.bipush 6, 2) := by decide +kernel
theorem dX3_init_23 : decode cX3_init 23 = .ok (.newarray .boolean, 2) := by decide +kernel
theorem dX3_init_25 : decode cX3_init 25 = .ok (.putfield 18, 3) := by decide +kernel
theorem dX3_init_28 : decode cX3_init 28 = .ok (.aload_n 0, 1) := by decide +kernel
theorem dX3_init_29 : decode cX3_init 29 = .ok (.new 21, 3) := by decide +kernel
theorem dX3_init_32 : decode cX3_init 32 = .ok (.dup, 1) := by decide +kernel
theorem dX3_init_33 : decode cX3_init 33 = .ok (.invokespecial 23, 3) := by decide +kernel
theorem dX3_init_36 : decode cX3_init 36 = .ok (.putfield 24, 3) := by decide +kernel
theorem dX3_init_39 : decode cX3_init 39 = .ok (.return_, 1) := by decide +kernel
theorem dX3_matchFor_0 : decode cX3_matchFor 0 = .ok (.aload_n 0, 1) := by decide +kernel
theorem dX3_matchFor_1 : decode cX3_matchFor 1 = .ok (.aload_n 1, 1) := by decide +kernel
theorem dX3_matchFor_2 : decode cX3_matchFor 2 = .ok (.iload_n 3, 1) := by decide +kernel
theorem dX3_matchFor_3 : decode cX3_matchFor 3 = .ok (.invokevirtual 28, 3) := by decide +kernel
theorem dX3_matchFor_6 : decode cX3_matchFor 6 = .ok (.iconst 0, 1) := by decide +kernel
theorem dX3_matchFor_7 : decode cX3_matchFor 7 = .ok (.istore 4, 2) := by decide +kernel
theorem dX3_matchFor_9 : decode cX3_matchFor 9 = .ok (.iload 4, 2) := by decide +kernel
theorem dX3_matchFor_11 : decode cX3_matchFor 11 = .ok (.bipush 6, 2) := by decide +kernel
theorem dX3_matchFor_13 : decode cX3_matchFor 13 = .ok (.if_icmp .ge 59, 3) := by decide +kernel
theorem dX3_matchFor_16 : decode cX3_matchFor 16 = .ok (.aload_n 0, 1) := by decide +kernel
theorem dX3_matchFor_17 : decode cX3_matchFor 17 = .ok (.aload_n 1, 1) := by decide +kernel
theorem dX3_matchFor_18 : decode cX3_matchFor 18 = .ok (.invokevirtual 32, 3) := by decide +kernel
theorem dX3_matchFor_21 : decode cX3_matchFor 21 = .ok (.istore 5, 2) := by decide +kernel
theorem dX3_matchFor_23 : decode cX3_matchFor 23 = .ok (.aload_n 0, 1) := by decide +kernel
theorem dX3_matchFor_24 : decode cX3_matchFor 24 = .ok (.aload_n 1, 1) := by decide +kernel
theorem dX3_matchFor_25 : decode cX3_matchFor 25 = .ok (.invokevirtual 36, 3) := by decide +kernel
theorem dX3_matchFor_28 : decode cX3_matchFor 28 = .ok (.istore 6, 2) := by decide +kernel
theorem dX3_matchFor_30 : decode cX3_matchFor 30 = .ok (.iload 5, 2) := by decide +kernel
theorem dX3_matchFor_32 : decode cX3_matchFor 32 = .ok (.ifCond .lt 8, 3) := by decide +kernel
theorem dX3_matchFor_35 : decode cX3_matchFor 35 = .ok (.iload 6, 2) := by decide +kernel
theorem dX3_matchFor_37 : decode cX3_matchFor 37 = .ok (.ifCond .ge 5, 3) := by decide +kernel
theorem dX3_matchFor_40 : decode cX3_matchFor 40 = .ok (.iconst (-1), 1) := by decide +kernel
theorem dX3_matchFor_41 : decode cX3_matchFor 41 = .ok (.ireturn, 1) := by decide +kernel
theorem dX3_matchFor_42 : decode cX3_matchFor 42 = .ok (.iload 6, 2) := by decide +kernel
theorem dX3_matchFor_44 : decode cX3_matchFor 44 = .ok (.iload_n 2, 1) := by decide +kernel
theorem dX3_matchFor_45 : decode cX3_matchFor 45 = .ok (.if_icmp .ne 6, 3) := by decide +kernel
theorem dX3_matchFor_48 : decode cX3_matchFor 48 = .ok (.iload 5, 2) := by decide +kernel
theorem dX3_matchFor_50 : decode cX3_matchFor 50 = .ok (.ireturn, 1) := by decide +kernel
theorem dX3_matchFor_51 : decode cX3_matchFor 51 = .ok (.aload_n 0, 1) := by decide +kernel
theorem dX3_matchFor_52 : decode cX3_matchFor 52 = .ok (.getfield 18, 3) := by decide +kernel
theorem dX3_matchFor_55 : decode cX3_matchFor 55 = .ok (.iload 6, 2) := by decide +kernel
theorem dX3_matchFor_57 : decode cX3_matchFor 57 = .ok (.iconst 1, 1) := by decide +kernel
theorem dX3_matchFor_58 : decode cX3_matchFor 58 = .ok (.bastore, 1) := by decide +kernel
theorem dX3_matchFor_59 : decode cX3_matchFor 59 = .ok (.aload_n 0, 1) := by decide +kernel
theorem dX3_matchFor_60 : decode cX3_matchFor 60 = .ok (.aload_n 1, 1) := by decide +kernel
theorem dX3_matchFor_61 : decode cX3_matchFor 61 = .ok (.iload 5, 2) := by decide +kernel
theorem dX3_matchFor_63 : decode cX3_matchFor 63 = .ok (.invokevirtual 39, 3) := by decide +kernel
theorem dX3_matchFor_66 : decode cX3_matchFor 66 = .ok (.iinc 4 1, 3) := by decide +kernel
theorem dX3_matchFor_69 : decode cX3_matchFor 69 = .ok (.goto (-60), 3) := by decide +kernel
theorem dX3_matchFor_72 : decode cX3_matchFor 72 = .ok (.iconst (-1), 1) := by decide +kernel
theorem dX3_matchFor_73 : decode cX3_matchFor 73 = .ok (.ireturn, 1) := by decide +kernel
theorem dX3_prepare_0 : decode cX3_prepare 0 = .ok (.aload_n 0, 1) := by decide +kernel
theorem dX3_prepare_1 : decode cX3_prepare 1 = .ok (.getfield 24, 3) := by decide +kernel
theorem dX3_prepare_4 : decode cX3_prepare 4 = .ok (.aload_n 1, 1) := by decide +kernel
theorem dX3_prepare_5 : decode cX3_prepare 5 = .ok (.invokevirtual 42, 3) := by decide +kernel
theorem dX3_prepare_8 : decode cX3_prepare 8 = .ok (.iconst 0, 1) := by decide +kernel
theorem dX3_prepare_9 : decode cX3_prepare 9 = .ok (.istore_n 3, 1) := by decide +kernel
theorem dX3_prepare_10 : decode cX3_prepare 10 = .ok (.iload_n 3, 1) := by decide +kernel
theorem dX3_prepare_11 : decode cX3_prepare 11 = .ok (.bipush 64, 2) := by decide +kernel
theorem dX3_prepare_13 : decode cX3_prepare 13 = .ok (.if_icmp .ge 33, 3) := by decide +kernel
theorem dX3_prepare_16 : decode cX3_prepare 16 = .ok (.aload_n 0, 1) := by decide +kernel
theorem dX3_prepare_17 : decode cX3_prepare 17 = .ok (.getfield 9, 3) := by decide +kernel
theorem dX3_prepare_20 : decode cX3_prepare 20 = .ok (.iload_n 3, 1) := by decide +kernel
theorem dX3_prepare_21 : decode cX3_prepare 21 = .ok (.aload_n 0, 1) := by decide +kernel
theorem dX3_prepare_22 : decode cX3_prepare 22 = .ok (.getfield 24, 3) := by decide +kernel
theorem dX3_prepare_25 : decode cX3_prepare 25 = .ok (.aload_n 1, 1) := by decide +kernel
theorem dX3_prepare_26 : decode cX3_prepare 26 = .ok (.iload_n 3, 1) := by decide +kernel
theorem dX3_prepare_27 : decode cX3_prepare 27 = .ok (.iload_n 2, 1) := by decide +kernel
theorem dX3_prepare_28 : decode cX3_prepare 28 = .ok (.invokevirtual 46, 3) := by decide +kernel
theorem dX3_prepare_31 : decode cX3_prepare 31 = .ok (.ifCond .ne 7, 3) := by decide +kernel
theorem dX3_prepare_34 : decode cX3_prepare 34 = .ok (.iconst 1, 1) := by decide +kernel
theorem dX3_prepare_35 : decode cX3_prepare 35 = .ok (.goto 4, 3) := by decide +kernel
theorem dX3_prepare_38 : decode cX3_prepare 38 = .ok (.iconst 0, 1) := by decide +kernel
theorem dX3_prepare_39 : decode cX3_prepare 39 = .ok (.bastore, 1) := by decide +kernel
theorem dX3_prepare_40 : decode cX3_prepare 40 = .ok (.iinc 3 1, 3) := by decide +kernel
theorem dX3_prepare_43 : decode cX3_prepare 43 = .ok (.goto (-33), 3) := by decide +kernel
theorem dX3_prepare_46 : decode cX3_prepare 46 = .ok (.iconst 0, 1) := by decide +kernel
theorem dX3_prepare_47 : decode cX3_prepare 47 = .ok (.istore_n 3, 1) := by decide +kernel
theorem dX3_prepare_48 : decode cX3_prepare 48 = .ok (.iload_n 3, 1) := by decide +kernel
theorem dX3_prepare_49 : decode cX3_prepare 49 = .ok (.bipush 40, 2) := by decide +kernel
theorem dX3_prepare_51 : decode cX3_prepare 51 = .ok (.if_icmp .ge 16, 3) := by decide +kernel
theorem dX3_prepare_54 : decode cX3_prepare 54 = .ok (.aload_n 0, 1) := by decide +kernel
theorem dX3_prepare_55 : decode cX3_prepare 55 = .ok (.getfield 15, 3) := by decide +kernel
theorem dX3_prepare_58 : decode cX3_prepare 58 = .ok (.iload_n 3, 1) := by decide +kernel
theorem dX3_prepare_59 : decode cX3_prepare 59 = .ok (.iconst 0, 1) := by decide +kernel
theorem dX3_prepare_60 : decode cX3_prepare 60 = .ok (.bastore, 1) := by decide +kernel
theorem dX3_prepare_61 : decode cX3_prepare 61 = .ok (.iinc 3 1, 3) := by decide +kernel
theorem dX3_prepare_64 : decode cX3_prepare 64 = .ok (.goto (-16), 3) := by decide +kernel
theorem dX3_prepare_67 : decode cX3_prepare 67 = .ok (.iconst 0, 1) := by decide +kernel
theorem dX3_prepare_68 : decode cX3_prepare 68 = .ok (.istore_n 3, 1) := by decide +kernel
theorem dX3_prepare_69 : decode cX3_prepare 69 = .ok (.iload_n 3, 1) := by decide +kernel
theorem dX3_prepare_70 : decode cX3_prepare 70 = .ok (.bipush 6, 2) := by decide +kernel
theorem dX3_prepare_72 : decode cX3_prepare 72 = .ok (.if_icmp .ge 25, 3) := by decide +kernel
theorem dX3_prepare_75 : decode cX3_prepare 75 = .ok (.aload_n 0, 1) := by decide +kernel
theorem dX3_prepare_76 : decode cX3_prepare 76 = .ok (.getfield 18, 3) := by decide +kernel
theorem dX3_prepare_79 : decode cX3_prepare 79 = .ok (.iload_n 3, 1) := by decide +kernel
theorem dX3_prepare_80 : decode cX3_prepare 80 = .ok (.aload_n 1, 1) := by decide +kernel
theorem dX3_prepare_81 : decode cX3_prepare 81 = .ok (.aload_n 1, 1) := by decide +kernel
theorem dX3_prepare_82 : decode cX3_prepare 82 = .ok (.getfield 50, 3) := by decide +kernel
theorem dX3_prepare_85 : decode cX3_prepare 85 = .ok (.iload_n 3, 1) := by decide +kernel
theorem dX3_prepare_86 : decode cX3_prepare 86 = .ok (.aaload, 1) := by decide +kernel
theorem dX3_prepare_87 : decode cX3_prepare 87 = .ok (.invokevirtual 56, 3) := by decide +kernel
theorem dX3_prepare_90 : decode cX3_prepare 90 = .ok (.bastore, 1) := by decide +kernel
theorem dX3_prepare_91 : decode cX3_prepare 91 = .ok (.iinc 3 1, 3) := by decide +kernel
theorem dX3_prepare_94 : decode cX3_prepare 94 = .ok (.goto (-25), 3) := by decide +kernel
theorem dX3_prepare_97 : decode cX3_prepare 97 = .ok (.return_, 1) := by decide +kernel
theorem dX3_worthiestMatch_0 : decode cX3_worthiestMatch 0 = .ok (.iconst (-1), 1) := by decide +kernel
theorem dX3_worthiestMatch_1 : decode cX3_worthiestMatch 1 = .ok (.istore_n 2, 1) := by decide +kernel
theorem dX3_worthiestMatch_2 : decode cX3_worthiestMatch 2 = .ok (.iconst 0, 1) := by decide +kernel
theorem dX3_worthiestMatch_3 : decode cX3_worthiestMatch 3 = .ok (.istore_n 3, 1) := by decide +kernel
theorem dX3_worthiestMatch_4 : decode cX3_worthiestMatch 4 = .ok (.iload_n 3, 1) := by decide +kernel
theorem dX3_worthiestMatch_5 : decode cX3_worthiestMatch 5 = .ok (.bipush 64, 2) := by decide +kernel
theorem dX3_worthiestMatch_7 : decode cX3_worthiestMatch 7 = .ok (.if_icmp .ge 71, 3) := by decide +kernel
theorem dX3_worthiestMatch_10 : decode cX3_worthiestMatch 10 = .ok (.aload_n 0, 1) := by decide +kernel
theorem dX3_worthiestMatch_11 : decode cX3_worthiestMatch 11 = .ok (.getfield 9, 3) := by decide +kernel
theorem dX3_worthiestMatch_14 : decode cX3_worthiestMatch 14 = .ok (.iload_n 3, 1) := by decide +kernel
theorem dX3_worthiestMatch_15 : decode cX3_worthiestMatch 15 = .ok (.baload, 1) := by decide +kernel
theorem dX3_worthiestMatch_16 : decode cX3_worthiestMatch 16 = .ok (.ifCond .eq 27, 3) := by decide +kernel
theorem dX3_worthiestMatch_19 : decode cX3_worthiestMatch 19 = .ok (.aload_n 0, 1) := by decide +kernel
theorem dX3_worthiestMatch_20 : decode cX3_worthiestMatch 20 = .ok (.aload_n 1, 1) := by decide +kernel
theorem dX3_worthiestMatch_21 : decode cX3_worthiestMatch 21 = .ok (.iload_n 3, 1) := by decide +kernel
theorem dX3_worthiestMatch_22 : decode cX3_worthiestMatch 22 = .ok (.iconst 0, 1) := by decide +kernel
