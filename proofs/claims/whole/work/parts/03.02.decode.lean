theorem dX6_turnGoal_0 : decode cX6_turnGoal 0 = .ok (.aload_n 0, 1) := by decide +kernel
theorem dX6_turnGoal_1 : decode cX6_turnGoal 1 = .ok (.iload_n 1, 1) := by decide +kernel
theorem dX6_turnGoal_2 : decode cX6_turnGoal 2 = .ok (.invokevirtual 142, 3) := by decide +kernel
theorem dX6_turnGoal_5 : decode cX6_turnGoal 5 = .ok (.ifCond .eq 15, 3) := by decide +kernel
theorem dX6_turnGoal_8 : decode cX6_turnGoal 8 = .ok (.aload_n 0, 1) := by decide +kernel
theorem dX6_turnGoal_9 : decode cX6_turnGoal 9 = .ok (.getfield 32, 3) := by decide +kernel
theorem dX6_turnGoal_12 : decode cX6_turnGoal 12 = .ok (.iload_n 2, 1) := by decide +kernel
theorem dX6_turnGoal_13 : decode cX6_turnGoal 13 = .ok (.iload_n 3, 1) := by decide +kernel
theorem dX6_turnGoal_14 : decode cX6_turnGoal 14 = .ok (.invokevirtual 93, 3) := by decide +kernel
theorem dX6_turnGoal_17 : decode cX6_turnGoal 17 = .ok (.ifCond .ne 6, 3) := by decide +kernel
theorem dX6_turnGoal_20 : decode cX6_turnGoal 20 = .ok (.bipush (-2), 2) := by decide +kernel
theorem dX6_turnGoal_22 : decode cX6_turnGoal 22 = .ok (.ireturn, 1) := by decide +kernel
theorem dX6_turnGoal_23 : decode cX6_turnGoal 23 = .ok (.aload_n 0, 1) := by decide +kernel
theorem dX6_turnGoal_24 : decode cX6_turnGoal 24 = .ok (.getfield 32, 3) := by decide +kernel
theorem dX6_turnGoal_27 : decode cX6_turnGoal 27 = .ok (.iload_n 2, 1) := by decide +kernel
theorem dX6_turnGoal_28 : decode cX6_turnGoal 28 = .ok (.iload_n 3, 1) := by decide +kernel
theorem dX6_turnGoal_29 : decode cX6_turnGoal 29 = .ok (.invokevirtual 97, 3) := by decide +kernel
theorem dX6_turnGoal_32 : decode cX6_turnGoal 32 = .ok (.istore 4, 2) := by decide +kernel
theorem dX6_turnGoal_34 : decode cX6_turnGoal 34 = .ok (.iload 4, 2) := by decide +kernel
theorem dX6_turnGoal_36 : decode cX6_turnGoal 36 = .ok (.aload_n 0, 1) := by decide +kernel
theorem dX6_turnGoal_37 : decode cX6_turnGoal 37 = .ok (.getfield 12, 3) := by decide +kernel
theorem dX6_turnGoal_40 : decode cX6_turnGoal 40 = .ok (.getfield 226, 3) := by decide +kernel
theorem dX6_turnGoal_43 : decode cX6_turnGoal 43 = .ok (.iload_n 1, 1) := by decide +kernel
theorem dX6_turnGoal_44 : decode cX6_turnGoal 44 = .ok (.iaload, 1) := by decide +kernel
theorem dX6_turnGoal_45 : decode cX6_turnGoal 45 = .ok (.if_icmp .ne 6, 3) := by decide +kernel
theorem dX6_turnGoal_48 : decode cX6_turnGoal 48 = .ok (.bipush (-2), 2) := by decide +kernel
theorem dX6_turnGoal_50 : decode cX6_turnGoal 50 = .ok (.ireturn, 1) := by decide +kernel
theorem dX6_turnGoal_51 : decode cX6_turnGoal 51 = .ok (.aload_n 0, 1) := by decide +kernel
theorem dX6_turnGoal_52 : decode cX6_turnGoal 52 = .ok (.getfield 12, 3) := by decide +kernel
theorem dX6_turnGoal_55 : decode cX6_turnGoal 55 = .ok (.getfield 230, 3) := by decide +kernel
theorem dX6_turnGoal_58 : decode cX6_turnGoal 58 = .ok (.iload_n 1, 1) := by decide +kernel
theorem dX6_turnGoal_59 : decode cX6_turnGoal 59 = .ok (.iconst 2, 1) := by decide +kernel
theorem dX6_turnGoal_60 : decode cX6_turnGoal 60 = .ok (.imul, 1) := by decide +kernel
theorem dX6_turnGoal_61 : decode cX6_turnGoal 61 = .ok (.iaload, 1) := by decide +kernel
theorem dX6_turnGoal_62 : decode cX6_turnGoal 62 = .ok (.ifCond .gt 19, 3) := by decide +kernel
theorem dX6_turnGoal_65 : decode cX6_turnGoal 65 = .ok (.aload_n 0, 1) := by decide +kernel
theorem dX6_turnGoal_66 : decode cX6_turnGoal 66 = .ok (.getfield 12, 3) := by decide +kernel
theorem dX6_turnGoal_69 : decode cX6_turnGoal 69 = .ok (.getfield 230, 3) := by decide +kernel
theorem dX6_turnGoal_72 : decode cX6_turnGoal 72 = .ok (.iload_n 1, 1) := by decide +kernel
theorem dX6_turnGoal_73 : decode cX6_turnGoal 73 = .ok (.iconst 2, 1) := by decide +kernel
theorem dX6_turnGoal_74 : decode cX6_turnGoal 74 = .ok (.imul, 1) := by decide +kernel
theorem dX6_turnGoal_75 : decode cX6_turnGoal 75 = .ok (.iconst 1, 1) := by decide +kernel
theorem dX6_turnGoal_76 : decode cX6_turnGoal 76 = .ok (.iadd, 1) := by decide +kernel
theorem dX6_turnGoal_77 : decode cX6_turnGoal 77 = .ok (.iaload, 1) := by decide +kernel
theorem dX6_turnGoal_78 : decode cX6_turnGoal 78 = .ok (.ifCond .le 6, 3) := by decide +kernel
theorem dX6_turnGoal_81 : decode cX6_turnGoal 81 = .ok (.bipush (-3), 2) := by decide +kernel
theorem dX6_turnGoal_83 : decode cX6_turnGoal 83 = .ok (.ireturn, 1) := by decide +kernel
theorem dX6_turnGoal_84 : decode cX6_turnGoal 84 = .ok (.aload_n 0, 1) := by decide +kernel
theorem dX6_turnGoal_85 : decode cX6_turnGoal 85 = .ok (.getfield 12, 3) := by decide +kernel
theorem dX6_turnGoal_88 : decode cX6_turnGoal 88 = .ok (.getfield 233, 3) := by decide +kernel
theorem dX6_turnGoal_91 : decode cX6_turnGoal 91 = .ok (.iload_n 1, 1) := by decide +kernel
theorem dX6_turnGoal_92 : decode cX6_turnGoal 92 = .ok (.dup2, 1) := by decide +kernel
theorem dX6_turnGoal_93 : decode cX6_turnGoal 93 = .ok (.laload, 1) := by decide +kernel
theorem dX6_turnGoal_94 : decode cX6_turnGoal 94 = .ok (.lconst 1, 1) := by decide +kernel
theorem dX6_turnGoal_95 : decode cX6_turnGoal 95 = .ok (.iload 4, 2) := by decide +kernel
theorem dX6_turnGoal_97 : decode cX6_turnGoal 97 = .ok (.lshl, 1) := by decide +kernel
theorem dX6_turnGoal_98 : decode cX6_turnGoal 98 = .ok (.lxor, 1) := by decide +kernel
theorem dX6_turnGoal_99 : decode cX6_turnGoal 99 = .ok (.lastore, 1) := by decide +kernel
theorem dX6_turnGoal_100 : decode cX6_turnGoal 100 = .ok (.aload_n 0, 1) := by decide +kernel
theorem dX6_turnGoal_101 : decode cX6_turnGoal 101 = .ok (.iload_n 1, 1) := by decide +kernel
theorem dX6_turnGoal_102 : decode cX6_turnGoal 102 = .ok (.invokevirtual 222, 3) := by decide +kernel
theorem dX6_turnGoal_105 : decode cX6_turnGoal 105 = .ok (.aload_n 0, 1) := by decide +kernel
theorem dX6_turnGoal_106 : decode cX6_turnGoal 106 = .ok (.getfield 12, 3) := by decide +kernel
theorem dX6_turnGoal_109 : decode cX6_turnGoal 109 = .ok (.getfield 233, 3) := by decide +kernel
theorem dX6_turnGoal_112 : decode cX6_turnGoal 112 = .ok (.iload_n 1, 1) := by decide +kernel
theorem dX6_turnGoal_113 : decode cX6_turnGoal 113 = .ok (.laload, 1) := by decide +kernel
theorem dX6_turnGoal_114 : decode cX6_turnGoal 114 = .ok (.invokestatic 237, 3) := by decide +kernel
theorem dX6_turnGoal_117 : decode cX6_turnGoal 117 = .ok (.ireturn, 1) := by decide +kernel
theorem dX6_turnChannel_0 : decode cX6_turnChannel 0 = .ok (.aload_n 0, 1) := by decide +kernel
theorem dX6_turnChannel_1 : decode cX6_turnChannel 1 = .ok (.getfield 32, 3) := by decide +kernel
theorem dX6_turnChannel_4 : decode cX6_turnChannel 4 = .ok (.iload_n 1, 1) := by decide +kernel
theorem dX6_turnChannel_5 : decode cX6_turnChannel 5 = .ok (.iload_n 2, 1) := by decide +kernel
theorem dX6_turnChannel_6 : decode cX6_turnChannel 6 = .ok (.iload_n 3, 1) := by decide +kernel
theorem dX6_turnChannel_7 : decode cX6_turnChannel 7 = .ok (.invokevirtual 119, 3) := by decide +kernel
theorem dX6_turnChannel_10 : decode cX6_turnChannel 10 = .ok (.istore 4, 2) := by decide +kernel
theorem dX6_turnChannel_12 : decode cX6_turnChannel 12 = .ok (.iload 4, 2) := by decide +kernel
theorem dX6_turnChannel_14 : decode cX6_turnChannel 14 = .ok (.iconst (-1), 1) := by decide +kernel
theorem dX6_turnChannel_15 : decode cX6_turnChannel 15 = .ok (.if_icmp .ne 6, 3) := by decide +kernel
theorem dX6_turnChannel_18 : decode cX6_turnChannel 18 = .ok (.bipush (-2), 2) := by decide +kernel
theorem dX6_turnChannel_20 : decode cX6_turnChannel 20 = .ok (.ireturn, 1) := by decide +kernel
theorem dX6_turnChannel_21 : decode cX6_turnChannel 21 = .ok (.aload_n 0, 1) := by decide +kernel
theorem dX6_turnChannel_22 : decode cX6_turnChannel 22 = .ok (.getfield 12, 3) := by decide +kernel
theorem dX6_turnChannel_25 : decode cX6_turnChannel 25 = .ok (.iload 4, 2) := by decide +kernel
theorem dX6_turnChannel_27 : decode cX6_turnChannel 27 = .ok (.invokevirtual 243, 3) := by decide +kernel
theorem dX6_turnChannel_30 : decode cX6_turnChannel 30 = .ok (.aload_n 0, 1) := by decide +kernel
theorem dX6_turnChannel_31 : decode cX6_turnChannel 31 = .ok (.getfield 12, 3) := by decide +kernel
theorem dX6_turnChannel_34 : decode cX6_turnChannel 34 = .ok (.iload 4, 2) := by decide +kernel
theorem dX6_turnChannel_36 : decode cX6_turnChannel 36 = .ok (.invokevirtual 200, 3) := by decide +kernel
theorem dX6_turnChannel_39 : decode cX6_turnChannel 39 = .ok (.ifCond .eq 7, 3) := by decide +kernel
theorem dX6_turnChannel_42 : decode cX6_turnChannel 42 = .ok (.iconst 0, 1) := by decide +kernel
theorem dX6_turnChannel_43 : decode cX6_turnChannel 43 = .ok (.goto 4, 3) := by decide +kernel
theorem dX6_turnChannel_46 : decode cX6_turnChannel 46 = .ok (.iconst 1, 1) := by decide +kernel
theorem dX6_turnChannel_47 : decode cX6_turnChannel 47 = .ok (.ireturn, 1) := by decide +kernel
theorem dX6_goSteps_0 : decode cX6_goSteps 0 = .ok (.iload_n 1, 1) := by decide +kernel
theorem dX6_goSteps_1 : decode cX6_goSteps 1 = .ok (.iconst 1, 1) := by decide +kernel
theorem dX6_goSteps_2 : decode cX6_goSteps 2 = .ok (.if_icmp .lt 10, 3) := by decide +kernel
theorem dX6_goSteps_5 : decode cX6_goSteps 5 = .ok (.iload_n 1, 1) := by decide +kernel
theorem dX6_goSteps_6 : decode cX6_goSteps 6 = .ok (.sipush 200, 3) := by decide +kernel
theorem dX6_goSteps_9 : decode cX6_goSteps 9 = .ok (.if_icmp .le 6, 3) := by decide +kernel
theorem dX6_goSteps_12 : decode cX6_goSteps 12 = .ok (.bipush (-2), 2) := by decide +kernel
theorem dX6_goSteps_14 : decode cX6_goSteps 14 = .ok (.ireturn, 1) := by decide +kernel
theorem dX6_goSteps_15 : decode cX6_goSteps 15 = .ok (.aload_n 0, 1) := by decide +kernel
theorem dX6_goSteps_16 : decode cX6_goSteps 16 = .ok (.getfield 46, 3) := by decide +kernel
theorem dX6_goSteps_19 : decode cX6_goSteps 19 = .ok (.aload_n 0, 1) := by decide +kernel
theorem dX6_goSteps_20 : decode cX6_goSteps 20 = .ok (.getfield 39, 3) := by decide +kernel
theorem dX6_goSteps_23 : decode cX6_goSteps 23 = .ok (.aload_n 0, 1) := by decide +kernel
theorem dX6_goSteps_24 : decode cX6_goSteps 24 = .ok (.getfield 12, 3) := by decide +kernel
theorem dX6_goSteps_27 : decode cX6_goSteps 27 = .ok (.invokevirtual 246, 3) := by decide +kernel
theorem dX6_goSteps_30 : decode cX6_goSteps 30 = .ok (.aload_n 0, 1) := by decide +kernel
theorem dX6_goSteps_31 : decode cX6_goSteps 31 = .ok (.getfield 46, 3) := by decide +kernel
theorem dX6_goSteps_34 : decode cX6_goSteps 34 = .ok (.aload_n 0, 1) := by decide +kernel
theorem dX6_goSteps_35 : decode cX6_goSteps 35 = .ok (.getfield 39, 3) := by decide +kernel
theorem dX6_goSteps_38 : decode cX6_goSteps 38 = .ok (.aload_n 0, 1) := by decide +kernel
theorem dX6_goSteps_39 : decode cX6_goSteps 39 = .ok (.getfield 12, 3) := by decide +kernel
theorem dX6_goSteps_42 : decode cX6_goSteps 42 = .ok (.iload_n 1, 1) := by decide +kernel
theorem dX6_goSteps_43 : decode cX6_goSteps 43 = .ok (.invokevirtual 250, 3) := by decide +kernel
theorem dX6_goSteps_46 : decode cX6_goSteps 46 = .ok (.aload_n 0, 1) := by decide +kernel
theorem dX6_goSteps_47 : decode cX6_goSteps 47 = .ok (.getfield 39, 3) := by decide +kernel
theorem dX6_goSteps_50 : decode cX6_goSteps 50 = .ok (.aload_n 0, 1) := by decide +kernel
theorem dX6_goSteps_51 : decode cX6_goSteps 51 = .ok (.getfield 12, 3) := by decide +kernel
theorem dX6_goSteps_54 : decode cX6_goSteps 54 = .ok (.iconst (-1), 1) := by decide +kernel
theorem dX6_goSteps_55 : decode cX6_goSteps 55 = .ok (.invokevirtual 254, 3) := by decide +kernel
theorem dX6_goSteps_58 : decode cX6_goSteps 58 = .ok (.ireturn, 1) := by decide +kernel
theorem dX6_startAgain_0 : decode cX6_startAgain 0 = .ok (.aload_n 0, 1) := by decide +kernel
theorem dX6_startAgain_1 : decode cX6_startAgain 1 = .ok (.getfield 12, 3) := by decide +kernel
theorem dX6_startAgain_4 : decode cX6_startAgain 4 = .ok (.getfield 257, 3) := by decide +kernel
theorem dX6_startAgain_7 : decode cX6_startAgain 7 = .ok (.istore_n 1, 1) := by decide +kernel
theorem dX6_startAgain_8 : decode cX6_startAgain 8 = .ok (.aload_n 0, 1) := by decide +kernel
theorem dX6_startAgain_9 : decode cX6_startAgain 9 = .ok (.getfield 12, 3) := by decide +kernel
theorem dX6_startAgain_12 : decode cX6_startAgain 12 = .ok (.invokevirtual 260, 3) := by decide +kernel
theorem dX6_startAgain_15 : decode cX6_startAgain 15 = .ok (.iload_n 1, 1) := by decide +kernel
theorem dX6_startAgain_16 : decode cX6_startAgain 16 = .ok (.ireturn, 1) := by decide +kernel
theorem dX6_hasMessage_0 : decode cX6_hasMessage 0 = .ok (.iload_n 1, 1) := by decide +kernel
theorem dX6_hasMessage_1 : decode cX6_hasMessage 1 = .ok (.ifCond .lt 18, 3) := by decide +kernel
theorem dX6_hasMessage_4 : decode cX6_hasMessage 4 = .ok (.iload_n 1, 1) := by decide +kernel
theorem dX6_hasMessage_5 : decode cX6_hasMessage 5 = .ok (.aload_n 0, 1) := by decide +kernel
theorem dX6_hasMessage_6 : decode cX6_hasMessage 6 = .ok (.getfield 12, 3) := by decide +kernel
theorem dX6_hasMessage_9 : decode cX6_hasMessage 9 = .ok (.getfield 203, 3) := by decide +kernel
theorem dX6_hasMessage_12 : decode cX6_hasMessage 12 = .ok (.if_icmp .ge 7, 3) := by decide +kernel
theorem dX6_hasMessage_15 : decode cX6_hasMessage 15 = .ok (.iconst 1, 1) := by decide +kernel
theorem dX6_hasMessage_16 : decode cX6_hasMessage 16 = .ok (.goto 4, 3) := by decide +kernel
theorem dX6_hasMessage_19 : decode cX6_hasMessage 19 = .ok (.iconst 0, 1) := by decide +kernel
theorem dX6_hasMessage_20 : decode cX6_hasMessage 20 = .ok (.ireturn, 1) := by decide +kernel
theorem dX6_hasWorm_0 : decode cX6_hasWorm 0 = .ok (.aload_n 0, 1) := by decide +kernel
theorem dX6_hasWorm_1 : decode cX6_hasWorm 1 = .ok (.iload_n 1, 1) := by decide +kernel
theorem dX6_hasWorm_2 : decode cX6_hasWorm 2 = .ok (.invokevirtual 142, 3) := by decide +kernel
theorem dX6_hasWorm_5 : decode cX6_hasWorm 5 = .ok (.ifCond .eq 16, 3) := by decide +kernel
theorem dX6_hasWorm_8 : decode cX6_hasWorm 8 = .ok (.iload_n 2, 1) := by decide +kernel
theorem dX6_hasWorm_9 : decode cX6_hasWorm 9 = .ok (.ifCond .lt 12, 3) := by decide +kernel
theorem dX6_hasWorm_12 : decode cX6_hasWorm 12 = .ok (.iload_n 2, 1) := by decide +kernel
theorem dX6_hasWorm_13 : decode cX6_hasWorm 13 = .ok (.iconst 2, 1) := by decide +kernel
theorem dX6_hasWorm_14 : decode cX6_hasWorm 14 = .ok (.if_icmp .ge 7, 3) := by decide +kernel
theorem dX6_hasWorm_17 : decode cX6_hasWorm 17 = .ok (.iconst 1, 1) := by decide +kernel
theorem dX6_hasWorm_18 : decode cX6_hasWorm 18 = .ok (.goto 4, 3) := by decide +kernel
theorem dX6_hasWorm_21 : decode cX6_hasWorm 21 = .ok (.iconst 0, 1) := by decide +kernel
theorem dX6_hasWorm_22 : decode cX6_hasWorm 22 = .ok (.ireturn, 1) := by decide +kernel
theorem dX6_wormFact_0 : decode cX6_wormFact 0 = .ok (.iload_n 2, 1) := by decide +kernel
theorem dX6_wormFact_1 : decode cX6_wormFact 1 = .ok (.tableswitch 176 0 7 #[47, 59, 68, 78, 106, 119, 129, 150], 47) := by decide +kernel
theorem dX6_wormFact_48 : decode cX6_wormFact 48 = .ok (.aload_n 0, 1) := by decide +kernel
theorem dX6_wormFact_49 : decode cX6_wormFact 49 = .ok (.getfield 12, 3) := by decide +kernel
theorem dX6_wormFact_52 : decode cX6_wormFact 52 = .ok (.iload_n 1, 1) := by decide +kernel
theorem dX6_wormFact_53 : decode cX6_wormFact 53 = .ok (.invokevirtual 263, 3) := by decide +kernel
theorem dX6_wormFact_56 : decode cX6_wormFact 56 = .ok (.invokestatic 237, 3) := by decide +kernel
theorem dX6_wormFact_59 : decode cX6_wormFact 59 = .ok (.ireturn, 1) := by decide +kernel
theorem dX6_wormFact_60 : decode cX6_wormFact 60 = .ok (.aload_n 0, 1) := by decide +kernel
theorem dX6_wormFact_61 : decode cX6_wormFact 61 = .ok (.getfield 39, 3) := by decide +kernel
theorem dX6_wormFact_64 : decode cX6_wormFact 64 = .ok (.iload_n 1, 1) := by decide +kernel
theorem dX6_wormFact_65 : decode cX6_wormFact 65 = .ok (.invokevirtual 132, 3) := by decide +kernel
theorem dX6_wormFact_68 : decode cX6_wormFact 68 = .ok (.ireturn, 1) := by decide +kernel
theorem dX6_wormFact_69 : decode cX6_wormFact 69 = .ok (.aload_n 0, 1) := by decide +kernel
theorem dX6_wormFact_70 : decode cX6_wormFact 70 = .ok (.getfield 12, 3) := by decide +kernel
theorem dX6_wormFact_73 : decode cX6_wormFact 73 = .ok (.getfield 230, 3) := by decide +kernel
theorem dX6_wormFact_76 : decode cX6_wormFact 76 = .ok (.iload_n 1, 1) := by decide +kernel
theorem dX6_wormFact_77 : decode cX6_wormFact 77 = .ok (.iaload, 1) := by decide +kernel
theorem dX6_wormFact_78 : decode cX6_wormFact 78 = .ok (.ireturn, 1) := by decide +kernel
theorem dX6_wormFact_79 : decode cX6_wormFact 79 = .ok (.aload_n 0, 1) := by decide +kernel
theorem dX6_wormFact_80 : decode cX6_wormFact 80 = .ok (.getfield 32, 3) := by decide +kernel
theorem dX6_wormFact_83 : decode cX6_wormFact 83 = .ok (.aload_n 0, 1) := by decide +kernel
theorem dX6_wormFact_84 : decode cX6_wormFact 84 = .ok (.getfield 39, 3) := by decide +kernel
theorem dX6_wormFact_87 : decode cX6_wormFact 87 = .ok (.iload_n 1, 1) := by decide +kernel
theorem dX6_wormFact_88 : decode cX6_wormFact 88 = .ok (.aload_n 0, 1) := by decide +kernel
theorem dX6_wormFact_89 : decode cX6_wormFact 89 = .ok (.getfield 39, 3) := by decide +kernel
theorem dX6_wormFact_92 : decode cX6_wormFact 92 = .ok (.aload_n 0, 1) := by decide +kernel
theorem dX6_wormFact_93 : decode cX6_wormFact 93 = .ok (.getfield 12, 3) := by decide +kernel
theorem dX6_wormFact_96 : decode cX6_wormFact 96 = .ok (.iload_n 1, 1) := by decide +kernel
theorem dX6_wormFact_97 : decode cX6_wormFact 97 = .ok (.invokevirtual 267, 3) := by decide +kernel
theorem dX6_wormFact_100 : decode cX6_wormFact 100 = .ok (.invokevirtual 135, 3) := by decide +kernel
theorem dX6_wormFact_103 : decode cX6_wormFact 103 = .ok (.invokevirtual 107, 3) := by decide +kernel
theorem dX6_wormFact_106 : decode cX6_wormFact 106 = .ok (.ireturn, 1) := by decide +kernel
theorem dX6_wormFact_107 : decode cX6_wormFact 107 = .ok (.aload_n 0, 1) := by decide +kernel
theorem dX6_wormFact_108 : decode cX6_wormFact 108 = .ok (.getfield 39, 3) := by decide +kernel
theorem dX6_wormFact_111 : decode cX6_wormFact 111 = .ok (.aload_n 0, 1) := by decide +kernel
theorem dX6_wormFact_112 : decode cX6_wormFact 112 = .ok (.getfield 12, 3) := by decide +kernel
theorem dX6_wormFact_115 : decode cX6_wormFact 115 = .ok (.iload_n 1, 1) := by decide +kernel
theorem dX6_wormFact_116 : decode cX6_wormFact 116 = .ok (.invokevirtual 270, 3) := by decide +kernel
theorem dX6_wormFact_119 : decode cX6_wormFact 119 = .ok (.ireturn, 1) := by decide +kernel
theorem dX6_wormFact_120 : decode cX6_wormFact 120 = .ok (.aload_n 0, 1) := by decide +kernel
theorem dX6_wormFact_121 : decode cX6_wormFact 121 = .ok (.getfield 12, 3) := by decide +kernel
theorem dX6_wormFact_124 : decode cX6_wormFact 124 = .ok (.getfield 273, 3) := by decide +kernel
theorem dX6_wormFact_127 : decode cX6_wormFact 127 = .ok (.iload_n 1, 1) := by decide +kernel
theorem dX6_wormFact_128 : decode cX6_wormFact 128 = .ok (.iaload, 1) := by decide +kernel
theorem dX6_wormFact_129 : decode cX6_wormFact 129 = .ok (.ireturn, 1) := by decide +kernel
theorem dX6_wormFact_130 : decode cX6_wormFact 130 = .ok (.aload_n 0, 1) := by decide +kernel
theorem dX6_wormFact_131 : decode cX6_wormFact 131 = .ok (.getfield 39, 3) := by decide +kernel
theorem dX6_wormFact_134 : decode cX6_wormFact 134 = .ok (.aload_n 0, 1) := by decide +kernel
theorem dX6_wormFact_135 : decode cX6_wormFact 135 = .ok (.getfield 12, 3) := by decide +kernel
theorem dX6_wormFact_138 : decode cX6_wormFact 138 = .ok (.iload_n 1, 1) := by decide +kernel
theorem dX6_wormFact_139 : decode cX6_wormFact 139 = .ok (.invokevirtual 276, 3) := by decide +kernel
theorem dX6_wormFact_142 : decode cX6_wormFact 142 = .ok (.ifCond .eq 7, 3) := by decide +kernel
theorem dX6_wormFact_145 : decode cX6_wormFact 145 = .ok (.iconst 1, 1) := by decide +kernel
theorem dX6_wormFact_146 : decode cX6_wormFact 146 = .ok (.goto 4, 3) := by decide +kernel
theorem dX6_wormFact_149 : decode cX6_wormFact 149 = .ok (.iconst 0, 1) := by decide +kernel
theorem dX6_wormFact_150 : decode cX6_wormFact 150 = .ok (.ireturn, 1) := by decide +kernel
theorem dX6_wormFact_151 : decode cX6_wormFact 151 = .ok (.aload_n 0, 1) := by decide +kernel
theorem dX6_wormFact_152 : decode cX6_wormFact 152 = .ok (.getfield 39, 3) := by decide +kernel
theorem dX6_wormFact_155 : decode cX6_wormFact 155 = .ok (.aload_n 0, 1) := by decide +kernel
theorem dX6_wormFact_156 : decode cX6_wormFact 156 = .ok (.getfield 12, 3) := by decide +kernel
theorem dX6_wormFact_159 : decode cX6_wormFact 159 = .ok (.iload_n 1, 1) := by decide +kernel
theorem dX6_wormFact_160 : decode cX6_wormFact 160 = .ok (.invokevirtual 267, 3) := by decide +kernel
theorem dX6_wormFact_163 : decode cX6_wormFact 163 = .ok (.aload_n 0, 1) := by decide +kernel
theorem dX6_wormFact_164 : decode cX6_wormFact 164 = .ok (.getfield 39, 3) := by decide +kernel
theorem dX6_wormFact_167 : decode cX6_wormFact 167 = .ok (.aload_n 0, 1) := by decide +kernel
theorem dX6_wormFact_168 : decode cX6_wormFact 168 = .ok (.getfield 12, 3) := by decide +kernel
theorem dX6_wormFact_171 : decode cX6_wormFact 171 = .ok (.iload_n 1, 1) := by decide +kernel
theorem dX6_wormFact_172 : decode cX6_wormFact 172 = .ok (.invokevirtual 280, 3) := by decide +kernel
theorem dX6_wormFact_175 : decode cX6_wormFact 175 = .ok (.isub, 1) := by decide +kernel
theorem dX6_wormFact_176 : decode cX6_wormFact 176 = .ok (.ireturn, 1) := by decide +kernel
theorem dX6_wormFact_177 : decode cX6_wormFact 177 = .ok (.aload_n 0, 1) := by decide +kernel
theorem dX6_wormFact_178 : decode cX6_wormFact 178 = .ok (.getfield 39, 3) := by decide +kernel
theorem dX6_wormFact_181 : decode cX6_wormFact 181 = .ok (.aload_n 0, 1) := by decide +kernel
theorem dX6_wormFact_182 : decode cX6_wormFact 182 = .ok (.getfield 12, 3) := by decide +kernel
theorem dX6_wormFact_185 : decode cX6_wormFact 185 = .ok (.iload_n 1, 1) := by decide +kernel
theorem dX6_wormFact_186 : decode cX6_wormFact 186 = .ok (.invokevirtual 283, 3) := by decide +kernel
theorem dX6_wormFact_189 : decode cX6_wormFact 189 = .ok (.ireturn, 1) := by decide +kernel
theorem dX6_messageFact_0 : decode cX6_messageFact 0 = .ok (.iload_n 2, 1) := by decide +kernel
theorem dX6_messageFact_1 : decode cX6_messageFact 1 = .ok (.tableswitch 116 0 4 #[35, 52, 69, 79, 92], 35) := by decide +kernel
theorem dX6_messageFact_36 : decode cX6_messageFact 36 = .ok (.aload_n 0, 1) := by decide +kernel
theorem dX6_messageFact_37 : decode cX6_messageFact 37 = .ok (.getfield 32, 3) := by decide +kernel
theorem dX6_messageFact_40 : decode cX6_messageFact 40 = .ok (.aload_n 0, 1) := by decide +kernel
theorem dX6_messageFact_41 : decode cX6_messageFact 41 = .ok (.getfield 12, 3) := by decide +kernel
theorem dX6_messageFact_44 : decode cX6_messageFact 44 = .ok (.getfield 226, 3) := by decide +kernel
theorem dX6_messageFact_47 : decode cX6_messageFact 47 = .ok (.iload_n 1, 1) := by decide +kernel
theorem dX6_messageFact_48 : decode cX6_messageFact 48 = .ok (.iaload, 1) := by decide +kernel
theorem dX6_messageFact_49 : decode cX6_messageFact 49 = .ok (.invokevirtual 286, 3) := by decide +kernel
theorem dX6_messageFact_52 : decode cX6_messageFact 52 = .ok (.ireturn, 1) := by decide +kernel
theorem dX6_messageFact_53 : decode cX6_messageFact 53 = .ok (.aload_n 0, 1) := by decide +kernel
theorem dX6_messageFact_54 : decode cX6_messageFact 54 = .ok (.getfield 32, 3) := by decide +kernel
theorem dX6_messageFact_57 : decode cX6_messageFact 57 = .ok (.aload_n 0, 1) := by decide +kernel
theorem dX6_messageFact_58 : decode cX6_messageFact 58 = .ok (.getfield 12, 3) := by decide +kernel
theorem dX6_messageFact_61 : decode cX6_messageFact 61 = .ok (.getfield 226, 3) := by decide +kernel
theorem dX6_messageFact_64 : decode cX6_messageFact 64 = .ok (.iload_n 1, 1) := by decide +kernel
theorem dX6_messageFact_65 : decode cX6_messageFact 65 = .ok (.iaload, 1) := by decide +kernel
theorem dX6_messageFact_66 : decode cX6_messageFact 66 = .ok (.invokevirtual 289, 3) := by decide +kernel
theorem dX6_messageFact_69 : decode cX6_messageFact 69 = .ok (.ireturn, 1) := by decide +kernel
theorem dX6_messageFact_70 : decode cX6_messageFact 70 = .ok (.aload_n 0, 1) := by decide +kernel
theorem dX6_messageFact_71 : decode cX6_messageFact 71 = .ok (.getfield 12, 3) := by decide +kernel
theorem dX6_messageFact_74 : decode cX6_messageFact 74 = .ok (.getfield 292, 3) := by decide +kernel
theorem dX6_messageFact_77 : decode cX6_messageFact 77 = .ok (.iload_n 1, 1) := by decide +kernel
theorem dX6_messageFact_78 : decode cX6_messageFact 78 = .ok (.iaload, 1) := by decide +kernel
theorem dX6_messageFact_79 : decode cX6_messageFact 79 = .ok (.ireturn, 1) := by decide +kernel
theorem dX6_messageFact_80 : decode cX6_messageFact 80 = .ok (.aload_n 0, 1) := by decide +kernel
theorem dX6_messageFact_81 : decode cX6_messageFact 81 = .ok (.getfield 12, 3) := by decide +kernel
theorem dX6_messageFact_84 : decode cX6_messageFact 84 = .ok (.getfield 233, 3) := by decide +kernel
theorem dX6_messageFact_87 : decode cX6_messageFact 87 = .ok (.iload_n 1, 1) := by decide +kernel
theorem dX6_messageFact_88 : decode cX6_messageFact 88 = .ok (.laload, 1) := by decide +kernel
theorem dX6_messageFact_89 : decode cX6_messageFact 89 = .ok (.invokestatic 237, 3) := by decide +kernel
theorem dX6_messageFact_92 : decode cX6_messageFact 92 = .ok (.ireturn, 1) := by decide +kernel
theorem dX6_messageFact_93 : decode cX6_messageFact 93 = .ok (.aload_n 0, 1) := by decide +kernel
theorem dX6_messageFact_94 : decode cX6_messageFact 94 = .ok (.getfield 39, 3) := by decide +kernel
theorem dX6_messageFact_97 : decode cX6_messageFact 97 = .ok (.iload_n 1, 1) := by decide +kernel
theorem dX6_messageFact_98 : decode cX6_messageFact 98 = .ok (.iconst 2, 1) := by decide +kernel
theorem dX6_messageFact_99 : decode cX6_messageFact 99 = .ok (.imul, 1) := by decide +kernel
theorem dX6_messageFact_100 : decode cX6_messageFact 100 = .ok (.invokevirtual 132, 3) := by decide +kernel
theorem dX6_messageFact_103 : decode cX6_messageFact 103 = .ok (.aload_n 0, 1) := by decide +kernel
theorem dX6_messageFact_104 : decode cX6_messageFact 104 = .ok (.getfield 39, 3) := by decide +kernel
theorem dX6_messageFact_107 : decode cX6_messageFact 107 = .ok (.iload_n 1, 1) := by decide +kernel
theorem dX6_messageFact_108 : decode cX6_messageFact 108 = .ok (.iconst 2, 1) := by decide +kernel
theorem dX6_messageFact_109 : decode cX6_messageFact 109 = .ok (.imul, 1) := by decide +kernel
theorem dX6_messageFact_110 : decode cX6_messageFact 110 = .ok (.iconst 1, 1) := by decide +kernel
theorem dX6_messageFact_111 : decode cX6_messageFact 111 = .ok (.iadd, 1) := by decide +kernel
theorem dX6_messageFact_112 : decode cX6_messageFact 112 = .ok (.invokevirtual 132, 3) := by decide +kernel
theorem dX6_messageFact_115 : decode cX6_messageFact 115 = .ok (.iadd, 1) := by decide +kernel
theorem dX6_messageFact_116 : decode cX6_messageFact 116 = .ok (.ireturn, 1) := by decide +kernel
theorem dX6_messageFact_117 : decode cX6_messageFact 117 = .ok (.aload_n 0, 1) := by decide +kernel
theorem dX6_messageFact_118 : decode cX6_messageFact 118 = .ok (.iload_n 1, 1) := by decide +kernel
theorem dX6_messageFact_119 : decode cX6_messageFact 119 = .ok (.invokevirtual 295, 3) := by decide +kernel
theorem dX6_messageFact_122 : decode cX6_messageFact 122 = .ok (.ireturn, 1) := by decide +kernel
theorem dX6_straightWays_0 : decode cX6_straightWays 0 = .ok (.iconst 0, 1) := by decide +kernel
theorem dX6_straightWays_1 : decode cX6_straightWays 1 = .ok (.istore_n 2, 1) := by decide +kernel
theorem dX6_straightWays_2 : decode cX6_straightWays 2 = .ok (.iconst 0, 1) := by decide +kernel
theorem dX6_straightWays_3 : decode cX6_straightWays 3 = .ok (.istore_n 3, 1) := by decide +kernel
theorem dX6_straightWays_4 : decode cX6_straightWays 4 = .ok (.iload_n 3, 1) := by decide +kernel
theorem dX6_straightWays_5 : decode cX6_straightWays 5 = .ok (.aload_n 0, 1) := by decide +kernel
theorem dX6_straightWays_6 : decode cX6_straightWays 6 = .ok (.getfield 32, 3) := by decide +kernel
theorem dX6_straightWays_9 : decode cX6_straightWays 9 = .ok (.invokevirtual 197, 3) := by decide +kernel
theorem dX6_straightWays_12 : decode cX6_straightWays 12 = .ok (.if_icmp .ge 47, 3) := by decide +kernel
theorem dX6_straightWays_15 : decode cX6_straightWays 15 = .ok (.aload_n 0, 1) := by decide +kernel
theorem dX6_straightWays_16 : decode cX6_straightWays 16 = .ok (.getfield 12, 3) := by decide +kernel
theorem dX6_straightWays_19 : decode cX6_straightWays 19 = .ok (.getfield 233, 3) := by decide +kernel
theorem dX6_straightWays_22 : decode cX6_straightWays 22 = .ok (.iload_n 1, 1) := by decide +kernel
theorem dX6_straightWays_23 : decode cX6_straightWays 23 = .ok (.laload, 1) := by decide +kernel
theorem dX6_straightWays_24 : decode cX6_straightWays 24 = .ok (.iload_n 3, 1) := by decide +kernel
theorem dX6_straightWays_25 : decode cX6_straightWays 25 = .ok (.lshr, 1) := by decide +kernel
theorem dX6_straightWays_26 : decode cX6_straightWays 26 = .ok (.lconst 1, 1) := by decide +kernel
theorem dX6_straightWays_27 : decode cX6_straightWays 27 = .ok (.land, 1) := by decide +kernel
theorem dX6_straightWays_28 : decode cX6_straightWays 28 = .ok (.lconst 0, 1) := by decide +kernel
theorem dX6_straightWays_29 : decode cX6_straightWays 29 = .ok (.lcmp, 1) := by decide +kernel
theorem dX6_straightWays_30 : decode cX6_straightWays 30 = .ok (.ifCond .eq 23, 3) := by decide +kernel
theorem dX6_straightWays_33 : decode cX6_straightWays 33 = .ok (.iload_n 2, 1) := by decide +kernel
theorem dX6_straightWays_34 : decode cX6_straightWays 34 = .ok (.aload_n 0, 1) := by decide +kernel
theorem dX6_straightWays_35 : decode cX6_straightWays 35 = .ok (.getfield 32, 3) := by decide +kernel
theorem dX6_straightWays_38 : decode cX6_straightWays 38 = .ok (.aload_n 0, 1) := by decide +kernel
theorem dX6_straightWays_39 : decode cX6_straightWays 39 = .ok (.getfield 12, 3) := by decide +kernel
theorem dX6_straightWays_42 : decode cX6_straightWays 42 = .ok (.getfield 226, 3) := by decide +kernel
theorem dX6_straightWays_45 : decode cX6_straightWays 45 = .ok (.iload_n 1, 1) := by decide +kernel
theorem dX6_straightWays_46 : decode cX6_straightWays 46 = .ok (.iaload, 1) := by decide +kernel
theorem dX6_straightWays_47 : decode cX6_straightWays 47 = .ok (.iload_n 3, 1) := by decide +kernel
theorem dX6_straightWays_48 : decode cX6_straightWays 48 = .ok (.invokevirtual 116, 3) := by decide +kernel
theorem dX6_straightWays_51 : decode cX6_straightWays 51 = .ok (.iadd, 1) := by decide +kernel
theorem dX6_straightWays_52 : decode cX6_straightWays 52 = .ok (.istore_n 2, 1) := by decide +kernel
theorem dX6_straightWays_53 : decode cX6_straightWays 53 = .ok (.iinc 3 1, 3) := by decide +kernel
theorem dX6_straightWays_56 : decode cX6_straightWays 56 = .ok (.goto (-52), 3) := by decide +kernel
theorem dX6_straightWays_59 : decode cX6_straightWays 59 = .ok (.iload_n 2, 1) := by decide +kernel
theorem dX6_straightWays_60 : decode cX6_straightWays 60 = .ok (.ireturn, 1) := by decide +kernel
theorem dX6_countFact_0 : decode cX6_countFact 0 = .ok (.iload_n 1, 1) := by decide +kernel
theorem dX6_countFact_1 : decode cX6_countFact 1 = .ok (.tableswitch 103 0 6 #[43, 51, 59, 67, 75, 83, 95], 43) := by decide +kernel
theorem dX6_countFact_44 : decode cX6_countFact 44 = .ok (.aload_n 0, 1) := by decide +kernel
theorem dX6_countFact_45 : decode cX6_countFact 45 = .ok (.getfield 12, 3) := by decide +kernel
theorem dX6_countFact_48 : decode cX6_countFact 48 = .ok (.getfield 298, 3) := by decide +kernel
theorem dX6_countFact_51 : decode cX6_countFact 51 = .ok (.ireturn, 1) := by decide +kernel
theorem dX6_countFact_52 : decode cX6_countFact 52 = .ok (.aload_n 0, 1) := by decide +kernel
theorem dX6_countFact_53 : decode cX6_countFact 53 = .ok (.getfield 12, 3) := by decide +kernel
theorem dX6_countFact_56 : decode cX6_countFact 56 = .ok (.getfield 301, 3) := by decide +kernel
theorem dX6_countFact_59 : decode cX6_countFact 59 = .ok (.ireturn, 1) := by decide +kernel
theorem dX6_countFact_60 : decode cX6_countFact 60 = .ok (.aload_n 0, 1) := by decide +kernel
theorem dX6_countFact_61 : decode cX6_countFact 61 = .ok (.getfield 12, 3) := by decide +kernel
theorem dX6_countFact_64 : decode cX6_countFact 64 = .ok (.getfield 203, 3) := by decide +kernel
theorem dX6_countFact_67 : decode cX6_countFact 67 = .ok (.ireturn, 1) := by decide +kernel
theorem dX6_countFact_68 : decode cX6_countFact 68 = .ok (.aload_n 0, 1) := by decide +kernel
theorem dX6_countFact_69 : decode cX6_countFact 69 = .ok (.getfield 12, 3) := by decide +kernel
theorem dX6_countFact_72 : decode cX6_countFact 72 = .ok (.getfield 257, 3) := by decide +kernel
theorem dX6_countFact_75 : decode cX6_countFact 75 = .ok (.ireturn, 1) := by decide +kernel
theorem dX6_countFact_76 : decode cX6_countFact 76 = .ok (.aload_n 0, 1) := by decide +kernel
theorem dX6_countFact_77 : decode cX6_countFact 77 = .ok (.getfield 12, 3) := by decide +kernel
theorem dX6_countFact_80 : decode cX6_countFact 80 = .ok (.invokevirtual 304, 3) := by decide +kernel
theorem dX6_countFact_83 : decode cX6_countFact 83 = .ok (.ireturn, 1) := by decide +kernel
theorem dX6_countFact_84 : decode cX6_countFact 84 = .ok (.aload_n 0, 1) := by decide +kernel
theorem dX6_countFact_85 : decode cX6_countFact 85 = .ok (.getfield 39, 3) := by decide +kernel
theorem dX6_countFact_88 : decode cX6_countFact 88 = .ok (.aload_n 0, 1) := by decide +kernel
theorem dX6_countFact_89 : decode cX6_countFact 89 = .ok (.getfield 12, 3) := by decide +kernel
theorem dX6_countFact_92 : decode cX6_countFact 92 = .ok (.invokevirtual 306, 3) := by decide +kernel
theorem dX6_countFact_95 : decode cX6_countFact 95 = .ok (.ireturn, 1) := by decide +kernel
theorem dX6_countFact_96 : decode cX6_countFact 96 = .ok (.aload_n 0, 1) := by decide +kernel
theorem dX6_countFact_97 : decode cX6_countFact 97 = .ok (.getfield 12, 3) := by decide +kernel
theorem dX6_countFact_100 : decode cX6_countFact 100 = .ok (.invokevirtual 310, 3) := by decide +kernel
theorem dX6_countFact_103 : decode cX6_countFact 103 = .ok (.ireturn, 1) := by decide +kernel
theorem dX6_countFact_104 : decode cX6_countFact 104 = .ok (.aload_n 0, 1) := by decide +kernel
theorem dX6_countFact_105 : decode cX6_countFact 105 = .ok (.invokevirtual 313, 3) := by decide +kernel
theorem dX6_countFact_108 : decode cX6_countFact 108 = .ok (.ireturn, 1) := by decide +kernel
theorem dX6_messagesDone_0 : decode cX6_messagesDone 0 = .ok (.iconst 0, 1) := by decide +kernel
theorem dX6_messagesDone_1 : decode cX6_messagesDone 1 = .ok (.istore_n 1, 1) := by decide +kernel
theorem dX6_messagesDone_2 : decode cX6_messagesDone 2 = .ok (.iconst 0, 1) := by decide +kernel
theorem dX6_messagesDone_3 : decode cX6_messagesDone 3 = .ok (.istore_n 2, 1) := by decide +kernel
theorem dX6_messagesDone_4 : decode cX6_messagesDone 4 = .ok (.iload_n 2, 1) := by decide +kernel
theorem dX6_messagesDone_5 : decode cX6_messagesDone 5 = .ok (.aload_n 0, 1) := by decide +kernel
theorem dX6_messagesDone_6 : decode cX6_messagesDone 6 = .ok (.getfield 12, 3) := by decide +kernel
theorem dX6_messagesDone_9 : decode cX6_messagesDone 9 = .ok (.getfield 203, 3) := by decide +kernel
theorem dX6_messagesDone_12 : decode cX6_messagesDone 12 = .ok (.if_icmp .ge 27, 3) := by decide +kernel
theorem dX6_messagesDone_15 : decode cX6_messagesDone 15 = .ok (.aload_n 0, 1) := by decide +kernel
theorem dX6_messagesDone_16 : decode cX6_messagesDone 16 = .ok (.getfield 39, 3) := by decide +kernel
theorem dX6_messagesDone_19 : decode cX6_messagesDone 19 = .ok (.aload_n 0, 1) := by decide +kernel
theorem dX6_messagesDone_20 : decode cX6_messagesDone 20 = .ok (.getfield 12, 3) := by decide +kernel
theorem dX6_messagesDone_23 : decode cX6_messagesDone 23 = .ok (.iload_n 2, 1) := by decide +kernel
theorem dX6_messagesDone_24 : decode cX6_messagesDone 24 = .ok (.invokevirtual 254, 3) := by decide +kernel
theorem dX6_messagesDone_27 : decode cX6_messagesDone 27 = .ok (.ifCond .ne 6, 3) := by decide +kernel
theorem dX6_messagesDone_30 : decode cX6_messagesDone 30 = .ok (.iinc 1 1, 3) := by decide +kernel
theorem dX6_messagesDone_33 : decode cX6_messagesDone 33 = .ok (.iinc 2 1, 3) := by decide +kernel
theorem dX6_messagesDone_36 : decode cX6_messagesDone 36 = .ok (.goto (-32), 3) := by decide +kernel
theorem dX6_messagesDone_39 : decode cX6_messagesDone 39 = .ok (.iload_n 1, 1) := by decide +kernel
theorem dX6_messagesDone_40 : decode cX6_messagesDone 40 = .ok (.ireturn, 1) := by decide +kernel
theorem dX6_toldFact_0 : decode cX6_toldFact 0 = .ok (.iload_n 1, 1) := by decide +kernel
theorem dX6_toldFact_1 : decode cX6_toldFact 1 = .ok (.tableswitch 54 0 3 #[31, 36, 41, 46], 31) := by decide +kernel
theorem dX6_toldFact_32 : decode cX6_toldFact 32 = .ok (.aload_n 0, 1) := by decide +kernel
theorem dX6_toldFact_33 : decode cX6_toldFact 33 = .ok (.getfield 211, 3) := by decide +kernel
theorem dX6_toldFact_36 : decode cX6_toldFact 36 = .ok (.ireturn, 1) := by decide +kernel
theorem dX6_toldFact_37 : decode cX6_toldFact 37 = .ok (.aload_n 0, 1) := by decide +kernel
theorem dX6_toldFact_38 : decode cX6_toldFact 38 = .ok (.getfield 214, 3) := by decide +kernel
theorem dX6_toldFact_41 : decode cX6_toldFact 41 = .ok (.ireturn, 1) := by decide +kernel
theorem dX6_toldFact_42 : decode cX6_toldFact 42 = .ok (.aload_n 0, 1) := by decide +kernel
theorem dX6_toldFact_43 : decode cX6_toldFact 43 = .ok (.getfield 217, 3) := by decide +kernel
theorem dX6_toldFact_46 : decode cX6_toldFact 46 = .ok (.ireturn, 1) := by decide +kernel
theorem dX6_toldFact_47 : decode cX6_toldFact 47 = .ok (.aload_n 0, 1) := by decide +kernel
theorem dX6_toldFact_48 : decode cX6_toldFact 48 = .ok (.getfield 53, 3) := by decide +kernel
theorem dX6_toldFact_51 : decode cX6_toldFact 51 = .ok (.invokevirtual 157, 3) := by decide +kernel
theorem dX6_toldFact_54 : decode cX6_toldFact 54 = .ok (.ireturn, 1) := by decide +kernel
theorem dX6_toldFact_55 : decode cX6_toldFact 55 = .ok (.aload_n 0, 1) := by decide +kernel
theorem dX6_toldFact_56 : decode cX6_toldFact 56 = .ok (.getfield 25, 3) := by decide +kernel
theorem dX6_toldFact_59 : decode cX6_toldFact 59 = .ok (.invokevirtual 189, 3) := by decide +kernel
theorem dX6_toldFact_62 : decode cX6_toldFact 62 = .ok (.ireturn, 1) := by decide +kernel
theorem dX6_stepsUntilDone_0 : decode cX6_stepsUntilDone 0 = .ok (.aload_n 0, 1) := by decide +kernel
theorem dX6_stepsUntilDone_1 : decode cX6_stepsUntilDone 1 = .ok (.getfield 19, 3) := by decide +kernel
theorem dX6_stepsUntilDone_4 : decode cX6_stepsUntilDone 4 = .ok (.aload_n 0, 1) := by decide +kernel
theorem dX6_stepsUntilDone_5 : decode cX6_stepsUntilDone 5 = .ok (.getfield 12, 3) := by decide +kernel
theorem dX6_stepsUntilDone_8 : decode cX6_stepsUntilDone 8 = .ok (.invokevirtual 64, 3) := by decide +kernel
theorem dX6_stepsUntilDone_11 : decode cX6_stepsUntilDone 11 = .ok (.aload_n 0, 1) := by decide +kernel
theorem dX6_stepsUntilDone_12 : decode cX6_stepsUntilDone 12 = .ok (.getfield 46, 3) := by decide +kernel
theorem dX6_stepsUntilDone_15 : decode cX6_stepsUntilDone 15 = .ok (.aload_n 0, 1) := by decide +kernel
theorem dX6_stepsUntilDone_16 : decode cX6_stepsUntilDone 16 = .ok (.getfield 39, 3) := by decide +kernel
theorem dX6_stepsUntilDone_19 : decode cX6_stepsUntilDone 19 = .ok (.aload_n 0, 1) := by decide +kernel
theorem dX6_stepsUntilDone_20 : decode cX6_stepsUntilDone 20 = .ok (.getfield 19, 3) := by decide +kernel
theorem dX6_stepsUntilDone_23 : decode cX6_stepsUntilDone 23 = .ok (.invokevirtual 246, 3) := by decide +kernel
theorem dX6_stepsUntilDone_26 : decode cX6_stepsUntilDone 26 = .ok (.iconst 0, 1) := by decide +kernel
theorem dX6_stepsUntilDone_27 : decode cX6_stepsUntilDone 27 = .ok (.istore_n 2, 1) := by decide +kernel
theorem dX6_stepsUntilDone_28 : decode cX6_stepsUntilDone 28 = .ok (.iload_n 2, 1) := by decide +kernel
theorem dX6_stepsUntilDone_29 : decode cX6_stepsUntilDone 29 = .ok (.sipush 400, 3) := by decide +kernel
theorem dX6_stepsUntilDone_32 : decode cX6_stepsUntilDone 32 = .ok (.if_icmp .gt 46, 3) := by decide +kernel
theorem dX6_stepsUntilDone_35 : decode cX6_stepsUntilDone 35 = .ok (.aload_n 0, 1) := by decide +kernel
theorem dX6_stepsUntilDone_36 : decode cX6_stepsUntilDone 36 = .ok (.getfield 39, 3) := by decide +kernel
theorem dX6_stepsUntilDone_39 : decode cX6_stepsUntilDone 39 = .ok (.aload_n 0, 1) := by decide +kernel
theorem dX6_stepsUntilDone_40 : decode cX6_stepsUntilDone 40 = .ok (.getfield 19, 3) := by decide +kernel
theorem dX6_stepsUntilDone_43 : decode cX6_stepsUntilDone 43 = .ok (.iload_n 1, 1) := by decide +kernel
theorem dX6_stepsUntilDone_44 : decode cX6_stepsUntilDone 44 = .ok (.invokevirtual 254, 3) := by decide +kernel
theorem dX6_stepsUntilDone_47 : decode cX6_stepsUntilDone 47 = .ok (.ifCond .ne 5, 3) := by decide +kernel
theorem dX6_stepsUntilDone_50 : decode cX6_stepsUntilDone 50 = .ok (.iload_n 2, 1) := by decide +kernel
theorem dX6_stepsUntilDone_51 : decode cX6_stepsUntilDone 51 = .ok (.ireturn, 1) := by decide +kernel
theorem dX6_stepsUntilDone_52 : decode cX6_stepsUntilDone 52 = .ok (.aload_n 0, 1) := by decide +kernel
theorem dX6_stepsUntilDone_53 : decode cX6_stepsUntilDone 53 = .ok (.getfield 46, 3) := by decide +kernel
theorem dX6_stepsUntilDone_56 : decode cX6_stepsUntilDone 56 = .ok (.aload_n 0, 1) := by decide +kernel
theorem dX6_stepsUntilDone_57 : decode cX6_stepsUntilDone 57 = .ok (.getfield 39, 3) := by decide +kernel
theorem dX6_stepsUntilDone_60 : decode cX6_stepsUntilDone 60 = .ok (.aload_n 0, 1) := by decide +kernel
theorem dX6_stepsUntilDone_61 : decode cX6_stepsUntilDone 61 = .ok (.getfield 19, 3) := by decide +kernel
theorem dX6_stepsUntilDone_64 : decode cX6_stepsUntilDone 64 = .ok (.invokevirtual 316, 3) := by decide +kernel
theorem dX6_stepsUntilDone_67 : decode cX6_stepsUntilDone 67 = .ok (.ifCond .ne 5, 3) := by decide +kernel
theorem dX6_stepsUntilDone_70 : decode cX6_stepsUntilDone 70 = .ok (.iconst (-1), 1) := by decide +kernel
theorem dX6_stepsUntilDone_71 : decode cX6_stepsUntilDone 71 = .ok (.ireturn, 1) := by decide +kernel
theorem dX6_stepsUntilDone_72 : decode cX6_stepsUntilDone 72 = .ok (.iinc 2 1, 3) := by decide +kernel
theorem dX6_stepsUntilDone_75 : decode cX6_stepsUntilDone 75 = .ok (.goto (-47), 3) := by decide +kernel
theorem dX6_stepsUntilDone_78 : decode cX6_stepsUntilDone 78 = .ok (.iconst (-1), 1) := by decide +kernel
theorem dX6_stepsUntilDone_79 : decode cX6_stepsUntilDone 79 = .ok (.ireturn, 1) := by decide +kernel
theorem dX6_layAll_0 : decode cX6_layAll 0 = .ok (.aload_n 0, 1) := by decide +kernel
theorem dX6_layAll_1 : decode cX6_layAll 1 = .ok (.getfield 32, 3) := by decide +kernel
theorem dX6_layAll_4 : decode cX6_layAll 4 = .ok (.aload_n 0, 1) := by decide +kernel
theorem dX6_layAll_5 : decode cX6_layAll 5 = .ok (.getfield 12, 3) := by decide +kernel
theorem dX6_layAll_8 : decode cX6_layAll 8 = .ok (.getfield 298, 3) := by decide +kernel
theorem dX6_layAll_11 : decode cX6_layAll 11 = .ok (.aload_n 0, 1) := by decide +kernel
theorem dX6_layAll_12 : decode cX6_layAll 12 = .ok (.getfield 12, 3) := by decide +kernel
theorem dX6_layAll_15 : decode cX6_layAll 15 = .ok (.getfield 301, 3) := by decide +kernel
theorem dX6_layAll_18 : decode cX6_layAll 18 = .ok (.invokevirtual 61, 3) := by decide +kernel
theorem dX6_layAll_21 : decode cX6_layAll 21 = .ok (.iconst 0, 1) := by decide +kernel
theorem dX6_layAll_22 : decode cX6_layAll 22 = .ok (.istore_n 1, 1) := by decide +kernel
theorem dX6_layAll_23 : decode cX6_layAll 23 = .ok (.iload_n 1, 1) := by decide +kernel
theorem dX6_layAll_24 : decode cX6_layAll 24 = .ok (.aload_n 0, 1) := by decide +kernel
theorem dX6_layAll_25 : decode cX6_layAll 25 = .ok (.getfield 12, 3) := by decide +kernel
theorem dX6_layAll_28 : decode cX6_layAll 28 = .ok (.getfield 203, 3) := by decide +kernel
theorem dX6_layAll_31 : decode cX6_layAll 31 = .ok (.if_icmp .ge 14, 3) := by decide +kernel
theorem dX6_layAll_34 : decode cX6_layAll 34 = .ok (.aload_n 0, 1) := by decide +kernel
theorem dX6_layAll_35 : decode cX6_layAll 35 = .ok (.iload_n 1, 1) := by decide +kernel
theorem dX6_layAll_36 : decode cX6_layAll 36 = .ok (.invokevirtual 222, 3) := by decide +kernel
theorem dX6_layAll_39 : decode cX6_layAll 39 = .ok (.iinc 1 1, 3) := by decide +kernel
theorem dX6_layAll_42 : decode cX6_layAll 42 = .ok (.goto (-19), 3) := by decide +kernel
theorem dX6_layAll_45 : decode cX6_layAll 45 = .ok (.return_, 1) := by decide +kernel
theorem dX6_layMessage_0 : decode cX6_layMessage 0 = .ok (.aload_n 0, 1) := by decide +kernel
theorem dX6_layMessage_1 : decode cX6_layMessage 1 = .ok (.getfield 39, 3) := by decide +kernel
theorem dX6_layMessage_4 : decode cX6_layMessage 4 = .ok (.aload_n 0, 1) := by decide +kernel
theorem dX6_layMessage_5 : decode cX6_layMessage 5 = .ok (.getfield 32, 3) := by decide +kernel
theorem dX6_layMessage_8 : decode cX6_layMessage 8 = .ok (.aload_n 0, 1) := by decide +kernel
theorem dX6_layMessage_9 : decode cX6_layMessage 9 = .ok (.getfield 12, 3) := by decide +kernel
theorem dX6_layMessage_12 : decode cX6_layMessage 12 = .ok (.iload_n 1, 1) := by decide +kernel
theorem dX6_layMessage_13 : decode cX6_layMessage 13 = .ok (.iconst 2, 1) := by decide +kernel
theorem dX6_layMessage_14 : decode cX6_layMessage 14 = .ok (.imul, 1) := by decide +kernel
theorem dX6_layMessage_15 : decode cX6_layMessage 15 = .ok (.invokevirtual 320, 3) := by decide +kernel
theorem dX6_layMessage_18 : decode cX6_layMessage 18 = .ok (.aload_n 0, 1) := by decide +kernel
theorem dX6_layMessage_19 : decode cX6_layMessage 19 = .ok (.getfield 39, 3) := by decide +kernel
theorem dX6_layMessage_22 : decode cX6_layMessage 22 = .ok (.aload_n 0, 1) := by decide +kernel
theorem dX6_layMessage_23 : decode cX6_layMessage 23 = .ok (.getfield 32, 3) := by decide +kernel
theorem dX6_layMessage_26 : decode cX6_layMessage 26 = .ok (.aload_n 0, 1) := by decide +kernel
theorem dX6_layMessage_27 : decode cX6_layMessage 27 = .ok (.getfield 12, 3) := by decide +kernel
theorem dX6_layMessage_30 : decode cX6_layMessage 30 = .ok (.iload_n 1, 1) := by decide +kernel
theorem dX6_layMessage_31 : decode cX6_layMessage 31 = .ok (.iconst 2, 1) := by decide +kernel
theorem dX6_layMessage_32 : decode cX6_layMessage 32 = .ok (.imul, 1) := by decide +kernel
theorem dX6_layMessage_33 : decode cX6_layMessage 33 = .ok (.iconst 1, 1) := by decide +kernel
theorem dX6_layMessage_34 : decode cX6_layMessage 34 = .ok (.iadd, 1) := by decide +kernel
theorem dX6_layMessage_35 : decode cX6_layMessage 35 = .ok (.invokevirtual 320, 3) := by decide +kernel
theorem dX6_layMessage_38 : decode cX6_layMessage 38 = .ok (.return_, 1) := by decide +kernel
theorem dX7_init_0 : decode cX7_init 0 = .ok (.aload_n 0, 1) := by decide +kernel
theorem dX7_init_1 : decode cX7_init 1 = .ok (.invokespecial 1, 3) := by decide +kernel
theorem dX7_init_4 : decode cX7_init 4 = .ok (.aload_n 0, 1) := by decide +kernel
theorem dX7_init_5 : decode cX7_init 5 = .ok (.bipush 80, 2) := by decide +kernel
theorem dX7_init_7 : decode cX7_init 7 = .ok (.newarray .int, 2) := by decide +kernel
theorem dX7_init_9 : decode cX7_init 9 = .ok (.putfield 7, 3) := by decide +kernel
theorem dX7_init_12 : decode cX7_init 12 = .ok (.aload_n 0, 1) := by decide +kernel
theorem dX7_init_13 : decode cX7_init 13 = .ok (.bipush 80, 2) := by decide +kernel
theorem dX7_init_15 : decode cX7_init 15 = .ok (.newarray .int, 2) := by decide +kernel
theorem dX7_init_17 : decode cX7_init 17 = .ok (.putfield 13, 3) := by decide +kernel
theorem dX7_init_20 : decode cX7_init 20 = .ok (.aload_n 0, 1) := by decide +kernel
theorem dX7_init_21 : decode cX7_init 21 = .ok (.sipush 400, 3) := by decide +kernel
theorem dX7_init_24 : decode cX7_init 24 = .ok (.newarray .int, 2) := by decide +kernel
theorem dX7_init_26 : decode cX7_init 26 = .ok (.putfield 16, 3) := by decide +kernel
theorem dX7_init_29 : decode cX7_init 29 = .ok (.aload_n 0, 1) := by decide +kernel
theorem dX7_init_30 : decode cX7_init 30 = .ok (.iconst 3, 1) := by decide +kernel
theorem dX7_init_31 : decode cX7_init 31 = .ok (.newarray .int, 2) := by decide +kernel
theorem dX7_init_33 : decode cX7_init 33 = .ok (.putfield 19, 3) := by decide +kernel
theorem dX7_init_36 : decode cX7_init 36 = .ok (.aload_n 0, 1) := by decide +kernel
theorem dX7_init_37 : decode cX7_init 37 = .ok (.bipush 120, 2) := by decide +kernel
theorem dX7_init_39 : decode cX7_init 39 = .ok (.newarray .int, 2) := by decide +kernel
theorem dX7_init_41 : decode cX7_init 41 = .ok (.putfield 22, 3) := by decide +kernel
theorem dX7_init_44 : decode cX7_init 44 = .ok (.aload_n 0, 1) := by decide +kernel
theorem dX7_init_45 : decode cX7_init 45 = .ok (.sipush 370, 3) := by decide +kernel
theorem dX7_init_48 : decode cX7_init 48 = .ok (.newarray .int, 2) := by decide +kernel
theorem dX7_init_50 : decode cX7_init 50 = .ok (.putfield 25, 3) := by decide +kernel
theorem dX7_init_53 : decode cX7_init 53 = .ok (.aload_n 0, 1) := by decide +kernel
theorem dX7_init_54 : decode cX7_init 54 = .ok (.bipush 10, 2) := by decide +kernel
theorem dX7_init_56 : decode cX7_init 56 = .ok (.newarray .int, 2) := by decide +kernel
theorem dX7_init_58 : decode cX7_init 58 = .ok (.putfield 28, 3) := by decide +kernel
theorem dX7_init_61 : decode cX7_init 61 = .ok (.aload_n 0, 1) := by decide +kernel
theorem dX7_init_62 : decode cX7_init 62 = .ok (.bipush 10, 2) := by decide +kernel
theorem dX7_init_64 : decode cX7_init 64 = .ok (.newarray .int, 2) := by decide +kernel
theorem dX7_init_66 : decode cX7_init 66 = .ok (.putfield 31, 3) := by decide +kernel
theorem dX7_init_69 : decode cX7_init 69 = .ok (.aload_n 0, 1) := by decide +kernel
theorem dX7_init_70 : decode cX7_init 70 = .ok (.sipush 360, 3) := by decide +kernel
theorem dX7_init_73 : decode cX7_init 73 = .ok (.newarray .int, 2) := by decide +kernel
theorem dX7_init_75 : decode cX7_init 75 = .ok (.putfield 34, 3) := by decide +kernel
theorem dX7_init_78 : decode cX7_init 78 = .ok (.aload_n 0, 1) := by decide +kernel
theorem dX7_init_79 : decode cX7_init 79 = .ok (.bipush 60, 2) := by decide +kernel
theorem dX7_init_81 : decode cX7_init 81 = .ok (.newarray .int, 2) := by decide +kernel
theorem dX7_init_83 : decode cX7_init 83 = .ok (.putfield 37, 3) := by decide +kernel
theorem dX7_init_86 : decode cX7_init 86 = .ok (.aload_n 0, 1) := by decide +kernel
theorem dX7_init_87 : decode cX7_init 87 = .ok (.sipush 180, 3) := by decide +kernel
theorem dX7_init_90 : decode cX7_init 90 = .ok (.newarray .int, 2) := by decide +kernel
theorem dX7_init_92 : decode cX7_init 92 = .ok (.putfield 40, 3) := by decide +kernel
theorem dX7_init_95 : decode cX7_init 95 = .ok (.aload_n 0, 1) := by decide +kernel
theorem dX7_init_96 : decode cX7_init 96 = .ok (.getfield 7, 3) := by decide +kernel
theorem dX7_init_99 : decode cX7_init 99 = .ok (.iconst 0, 1) := by decide +kernel
theorem dX7_init_100 : decode cX7_init 100 = .ok (.iconst 4, 1) := by decide +kernel
theorem dX7_init_101 : decode cX7_init 101 = .ok (.iastore, 1) := by decide +kernel
theorem dX7_init_102 : decode cX7_init 102 = .ok (.aload_n 0, 1) := by decide +kernel
theorem dX7_init_103 : decode cX7_init 103 = .ok (.getfield 7, 3) := by decide +kernel
theorem dX7_init_106 : decode cX7_init 106 = .ok (.iconst 1, 1) := by decide +kernel
theorem dX7_init_107 : decode cX7_init 107 = .ok (.iconst 4, 1) := by decide +kernel
theorem dX7_init_108 : decode cX7_init 108 = .ok (.iastore, 1) := by decide +kernel
theorem dX7_init_109 : decode cX7_init 109 = .ok (.return_, 1) := by decide +kernel
theorem dX7_in_0 : decode cX7_in 0 = .ok (.iload_n 0, 1) := by decide +kernel
theorem dX7_in_1 : decode cX7_in 1 = .ok (.iload_n 1, 1) := by decide +kernel
theorem dX7_in_2 : decode cX7_in 2 = .ok (.if_icmp .lt 12, 3) := by decide +kernel
theorem dX7_in_5 : decode cX7_in 5 = .ok (.iload_n 0, 1) := by decide +kernel
theorem dX7_in_6 : decode cX7_in 6 = .ok (.iload_n 2, 1) := by decide +kernel
theorem dX7_in_7 : decode cX7_in 7 = .ok (.if_icmp .gt 7, 3) := by decide +kernel
theorem dX7_in_10 : decode cX7_in 10 = .ok (.iconst 1, 1) := by decide +kernel
theorem dX7_in_11 : decode cX7_in 11 = .ok (.goto 4, 3) := by decide +kernel
theorem dX7_in_14 : decode cX7_in 14 = .ok (.iconst 0, 1) := by decide +kernel
theorem dX7_in_15 : decode cX7_in 15 = .ok (.ireturn, 1) := by decide +kernel
theorem dX7_refuses_0 : decode cX7_refuses 0 = .ok (.aload_n 0, 1) := by decide +kernel
theorem dX7_refuses_1 : decode cX7_refuses 1 = .ok (.getfield 19, 3) := by decide +kernel
theorem dX7_refuses_4 : decode cX7_refuses 4 = .ok (.bipush (-2), 2) := by decide +kernel
theorem dX7_refuses_6 : decode cX7_refuses 6 = .ok (.iload_n 1, 1) := by decide +kernel
theorem dX7_refuses_7 : decode cX7_refuses 7 = .ok (.isub, 1) := by decide +kernel
theorem dX7_refuses_8 : decode cX7_refuses 8 = .ok (.dup2, 1) := by decide +kernel
theorem dX7_refuses_9 : decode cX7_refuses 9 = .ok (.iaload, 1) := by decide +kernel
theorem dX7_refuses_10 : decode cX7_refuses 10 = .ok (.iconst 1, 1) := by decide +kernel
theorem dX7_refuses_11 : decode cX7_refuses 11 = .ok (.iadd, 1) := by decide +kernel
theorem dX7_refuses_12 : decode cX7_refuses 12 = .ok (.iastore, 1) := by decide +kernel
theorem dX7_refuses_13 : decode cX7_refuses 13 = .ok (.iload_n 1, 1) := by decide +kernel
theorem dX7_refuses_14 : decode cX7_refuses 14 = .ok (.ireturn, 1) := by decide +kernel
theorem dX7_laysAside_0 : decode cX7_laysAside 0 = .ok (.iconst 0, 1) := by decide +kernel
theorem dX7_laysAside_1 : decode cX7_laysAside 1 = .ok (.istore_n 1, 1) := by decide +kernel
theorem dX7_laysAside_2 : decode cX7_laysAside 2 = .ok (.iload_n 1, 1) := by decide +kernel
theorem dX7_laysAside_3 : decode cX7_laysAside 3 = .ok (.bipush 80, 2) := by decide +kernel
theorem dX7_laysAside_5 : decode cX7_laysAside 5 = .ok (.if_icmp .ge 21, 3) := by decide +kernel
theorem dX7_laysAside_8 : decode cX7_laysAside 8 = .ok (.aload_n 0, 1) := by decide +kernel
theorem dX7_laysAside_9 : decode cX7_laysAside 9 = .ok (.getfield 13, 3) := by decide +kernel
theorem dX7_laysAside_12 : decode cX7_laysAside 12 = .ok (.iload_n 1, 1) := by decide +kernel
theorem dX7_laysAside_13 : decode cX7_laysAside 13 = .ok (.aload_n 0, 1) := by decide +kernel
theorem dX7_laysAside_14 : decode cX7_laysAside 14 = .ok (.getfield 7, 3) := by decide +kernel
theorem dX7_laysAside_17 : decode cX7_laysAside 17 = .ok (.iload_n 1, 1) := by decide +kernel
theorem dX7_laysAside_18 : decode cX7_laysAside 18 = .ok (.iaload, 1) := by decide +kernel
theorem dX7_laysAside_19 : decode cX7_laysAside 19 = .ok (.iastore, 1) := by decide +kernel
theorem dX7_laysAside_20 : decode cX7_laysAside 20 = .ok (.iinc 1 1, 3) := by decide +kernel
theorem dX7_laysAside_23 : decode cX7_laysAside 23 = .ok (.goto (-21), 3) := by decide +kernel
theorem dX7_laysAside_26 : decode cX7_laysAside 26 = .ok (.return_, 1) := by decide +kernel
theorem dX7_takesBack_0 : decode cX7_takesBack 0 = .ok (.iconst 0, 1) := by decide +kernel
theorem dX7_takesBack_1 : decode cX7_takesBack 1 = .ok (.istore_n 1, 1) := by decide +kernel
theorem dX7_takesBack_2 : decode cX7_takesBack 2 = .ok (.iload_n 1, 1) := by decide +kernel
theorem dX7_takesBack_3 : decode cX7_takesBack 3 = .ok (.bipush 80, 2) := by decide +kernel
theorem dX7_takesBack_5 : decode cX7_takesBack 5 = .ok (.if_icmp .ge 21, 3) := by decide +kernel
theorem dX7_takesBack_8 : decode cX7_takesBack 8 = .ok (.aload_n 0, 1) := by decide +kernel
theorem dX7_takesBack_9 : decode cX7_takesBack 9 = .ok (.getfield 7, 3) := by decide +kernel
theorem dX7_takesBack_12 : decode cX7_takesBack 12 = .ok (.iload_n 1, 1) := by decide +kernel
theorem dX7_takesBack_13 : decode cX7_takesBack 13 = .ok (.aload_n 0, 1) := by decide +kernel
theorem dX7_takesBack_14 : decode cX7_takesBack 14 = .ok (.getfield 13, 3) := by decide +kernel
theorem dX7_takesBack_17 : decode cX7_takesBack 17 = .ok (.iload_n 1, 1) := by decide +kernel
theorem dX7_takesBack_18 : decode cX7_takesBack 18 = .ok (.iaload, 1) := by decide +kernel
theorem dX7_takesBack_19 : decode cX7_takesBack 19 = .ok (.iastore, 1) := by decide +kernel
theorem dX7_takesBack_20 : decode cX7_takesBack 20 = .ok (.iinc 1 1, 3) := by decide +kernel
theorem dX7_takesBack_23 : decode cX7_takesBack 23 = .ok (.goto (-21), 3) := by decide +kernel
theorem dX7_takesBack_26 : decode cX7_takesBack 26 = .ok (.return_, 1) := by decide +kernel
theorem dX7_remembers_0 : decode cX7_remembers 0 = .ok (.aload_n 0, 1) := by decide +kernel
theorem dX7_remembers_1 : decode cX7_remembers 1 = .ok (.getfield 43, 3) := by decide +kernel
theorem dX7_remembers_4 : decode cX7_remembers 4 = .ok (.iconst 5, 1) := by decide +kernel
theorem dX7_remembers_5 : decode cX7_remembers 5 = .ok (.if_icmp .ne 43, 3) := by decide +kernel
theorem dX7_remembers_8 : decode cX7_remembers 8 = .ok (.iconst 0, 1) := by decide +kernel
theorem dX7_remembers_9 : decode cX7_remembers 9 = .ok (.istore_n 1, 1) := by decide +kernel
theorem dX7_remembers_10 : decode cX7_remembers 10 = .ok (.iload_n 1, 1) := by decide +kernel
theorem dX7_remembers_11 : decode cX7_remembers 11 = .ok (.sipush 320, 3) := by decide +kernel
theorem dX7_remembers_14 : decode cX7_remembers 14 = .ok (.if_icmp .ge 24, 3) := by decide +kernel
theorem dX7_remembers_17 : decode cX7_remembers 17 = .ok (.aload_n 0, 1) := by decide +kernel
theorem dX7_remembers_18 : decode cX7_remembers 18 = .ok (.getfield 16, 3) := by decide +kernel
theorem dX7_remembers_21 : decode cX7_remembers 21 = .ok (.iload_n 1, 1) := by decide +kernel
theorem dX7_remembers_22 : decode cX7_remembers 22 = .ok (.aload_n 0, 1) := by decide +kernel
theorem dX7_remembers_23 : decode cX7_remembers 23 = .ok (.getfield 16, 3) := by decide +kernel
theorem dX7_remembers_26 : decode cX7_remembers 26 = .ok (.iload_n 1, 1) := by decide +kernel
theorem dX7_remembers_27 : decode cX7_remembers 27 = .ok (.bipush 80, 2) := by decide +kernel
theorem dX7_remembers_29 : decode cX7_remembers 29 = .ok (.iadd, 1) := by decide +kernel
theorem dX7_remembers_30 : decode cX7_remembers 30 = .ok (.iaload, 1) := by decide +kernel
theorem dX7_remembers_31 : decode cX7_remembers 31 = .ok (.iastore, 1) := by decide +kernel
theorem dX7_remembers_32 : decode cX7_remembers 32 = .ok (.iinc 1 1, 3) := by decide +kernel
theorem dX7_remembers_35 : decode cX7_remembers 35 = .ok (.goto (-25), 3) := by decide +kernel
theorem dX7_remembers_38 : decode cX7_remembers 38 = .ok (.aload_n 0, 1) := by decide +kernel
theorem dX7_remembers_39 : decode cX7_remembers 39 = .ok (.dup, 1) := by decide +kernel
theorem dX7_remembers_40 : decode cX7_remembers 40 = .ok (.getfield 43, 3) := by decide +kernel
theorem dX7_remembers_43 : decode cX7_remembers 43 = .ok (.iconst 1, 1) := by decide +kernel
theorem dX7_remembers_44 : decode cX7_remembers 44 = .ok (.isub, 1) := by decide +kernel
theorem dX7_remembers_45 : decode cX7_remembers 45 = .ok (.putfield 43, 3) := by decide +kernel
theorem dX7_remembers_48 : decode cX7_remembers 48 = .ok (.iconst 0, 1) := by decide +kernel
theorem dX7_remembers_49 : decode cX7_remembers 49 = .ok (.istore_n 1, 1) := by decide +kernel
theorem dX7_remembers_50 : decode cX7_remembers 50 = .ok (.iload_n 1, 1) := by decide +kernel
theorem dX7_remembers_51 : decode cX7_remembers 51 = .ok (.bipush 80, 2) := by decide +kernel
theorem dX7_remembers_53 : decode cX7_remembers 53 = .ok (.if_icmp .ge 29, 3) := by decide +kernel
theorem dX7_remembers_56 : decode cX7_remembers 56 = .ok (.aload_n 0, 1) := by decide +kernel
theorem dX7_remembers_57 : decode cX7_remembers 57 = .ok (.getfield 16, 3) := by decide +kernel
theorem dX7_remembers_60 : decode cX7_remembers 60 = .ok (.bipush 80, 2) := by decide +kernel
theorem dX7_remembers_62 : decode cX7_remembers 62 = .ok (.aload_n 0, 1) := by decide +kernel
theorem dX7_remembers_63 : decode cX7_remembers 63 = .ok (.getfield 43, 3) := by decide +kernel
theorem dX7_remembers_66 : decode cX7_remembers 66 = .ok (.imul, 1) := by decide +kernel
theorem dX7_remembers_67 : decode cX7_remembers 67 = .ok (.iload_n 1, 1) := by decide +kernel
theorem dX7_remembers_68 : decode cX7_remembers 68 = .ok (.iadd, 1) := by decide +kernel
theorem dX7_remembers_69 : decode cX7_remembers 69 = .ok (.aload_n 0, 1) := by decide +kernel
theorem dX7_remembers_70 : decode cX7_remembers 70 = .ok (.getfield 13, 3) := by decide +kernel
theorem dX7_remembers_73 : decode cX7_remembers 73 = .ok (.iload_n 1, 1) := by decide +kernel
theorem dX7_remembers_74 : decode cX7_remembers 74 = .ok (.iaload, 1) := by decide +kernel
theorem dX7_remembers_75 : decode cX7_remembers 75 = .ok (.iastore, 1) := by decide +kernel
theorem dX7_remembers_76 : decode cX7_remembers 76 = .ok (.iinc 1 1, 3) := by decide +kernel
theorem dX7_remembers_79 : decode cX7_remembers 79 = .ok (.goto (-29), 3) := by decide +kernel
theorem dX7_remembers_82 : decode cX7_remembers 82 = .ok (.aload_n 0, 1) := by decide +kernel
theorem dX7_remembers_83 : decode cX7_remembers 83 = .ok (.dup, 1) := by decide +kernel
theorem dX7_remembers_84 : decode cX7_remembers 84 = .ok (.getfield 43, 3) := by decide +kernel
theorem dX7_remembers_87 : decode cX7_remembers 87 = .ok (.iconst 1, 1) := by decide +kernel
theorem dX7_remembers_88 : decode cX7_remembers 88 = .ok (.iadd, 1) := by decide +kernel
theorem dX7_remembers_89 : decode cX7_remembers 89 = .ok (.putfield 43, 3) := by decide +kernel
theorem dX7_remembers_92 : decode cX7_remembers 92 = .ok (.return_, 1) := by decide +kernel
theorem dX7_back_0 : decode cX7_back 0 = .ok (.aload_n 0, 1) := by decide +kernel
theorem dX7_back_1 : decode cX7_back 1 = .ok (.getfield 43, 3) := by decide +kernel
theorem dX7_back_4 : decode cX7_back 4 = .ok (.ifCond .ne 10, 3) := by decide +kernel
theorem dX7_back_7 : decode cX7_back 7 = .ok (.aload_n 0, 1) := by decide +kernel
theorem dX7_back_8 : decode cX7_back 8 = .ok (.bipush (-3), 2) := by decide +kernel
theorem dX7_back_10 : decode cX7_back 10 = .ok (.invokevirtual 47, 3) := by decide +kernel
theorem dX7_back_13 : decode cX7_back 13 = .ok (.ireturn, 1) := by decide +kernel
theorem dX7_back_14 : decode cX7_back 14 = .ok (.aload_n 0, 1) := by decide +kernel
theorem dX7_back_15 : decode cX7_back 15 = .ok (.dup, 1) := by decide +kernel
theorem dX7_back_16 : decode cX7_back 16 = .ok (.getfield 43, 3) := by decide +kernel
theorem dX7_back_19 : decode cX7_back 19 = .ok (.iconst 1, 1) := by decide +kernel
theorem dX7_back_20 : decode cX7_back 20 = .ok (.isub, 1) := by decide +kernel
theorem dX7_back_21 : decode cX7_back 21 = .ok (.putfield 43, 3) := by decide +kernel
theorem dX7_back_24 : decode cX7_back 24 = .ok (.iconst 0, 1) := by decide +kernel
theorem dX7_back_25 : decode cX7_back 25 = .ok (.istore_n 1, 1) := by decide +kernel
theorem dX7_back_26 : decode cX7_back 26 = .ok (.iload_n 1, 1) := by decide +kernel
theorem dX7_back_27 : decode cX7_back 27 = .ok (.bipush 80, 2) := by decide +kernel
theorem dX7_back_29 : decode cX7_back 29 = .ok (.if_icmp .ge 29, 3) := by decide +kernel
theorem dX7_back_32 : decode cX7_back 32 = .ok (.aload_n 0, 1) := by decide +kernel
theorem dX7_back_33 : decode cX7_back 33 = .ok (.getfield 7, 3) := by decide +kernel
theorem dX7_back_36 : decode cX7_back 36 = .ok (.iload_n 1, 1) := by decide +kernel
theorem dX7_back_37 : decode cX7_back 37 = .ok (.aload_n 0, 1) := by decide +kernel
theorem dX7_back_38 : decode cX7_back 38 = .ok (.getfield 16, 3) := by decide +kernel
theorem dX7_back_41 : decode cX7_back 41 = .ok (.bipush 80, 2) := by decide +kernel
theorem dX7_back_43 : decode cX7_back 43 = .ok (.aload_n 0, 1) := by decide +kernel
theorem dX7_back_44 : decode cX7_back 44 = .ok (.getfield 43, 3) := by decide +kernel
theorem dX7_back_47 : decode cX7_back 47 = .ok (.imul, 1) := by decide +kernel
theorem dX7_back_48 : decode cX7_back 48 = .ok (.iload_n 1, 1) := by decide +kernel
theorem dX7_back_49 : decode cX7_back 49 = .ok (.iadd, 1) := by decide +kernel
theorem dX7_back_50 : decode cX7_back 50 = .ok (.iaload, 1) := by decide +kernel
theorem dX7_back_51 : decode cX7_back 51 = .ok (.iastore, 1) := by decide +kernel
theorem dX7_back_52 : decode cX7_back 52 = .ok (.iinc 1 1, 3) := by decide +kernel
theorem dX7_back_55 : decode cX7_back 55 = .ok (.goto (-29), 3) := by decide +kernel
theorem dX7_back_58 : decode cX7_back 58 = .ok (.aload_n 0, 1) := by decide +kernel
theorem dX7_back_59 : decode cX7_back 59 = .ok (.getfield 43, 3) := by decide +kernel
theorem dX7_back_62 : decode cX7_back 62 = .ok (.ireturn, 1) := by decide +kernel
theorem dX7_finished_0 : decode cX7_finished 0 = .ok (.iload_n 1, 1) := by decide +kernel
theorem dX7_finished_1 : decode cX7_finished 1 = .ok (.bipush (-2), 2) := by decide +kernel
theorem dX7_finished_3 : decode cX7_finished 3 = .ok (.if_icmp .gt 9, 3) := by decide +kernel
theorem dX7_finished_6 : decode cX7_finished 6 = .ok (.aload_n 0, 1) := by decide +kernel
theorem dX7_finished_7 : decode cX7_finished 7 = .ok (.iload_n 1, 1) := by decide +kernel
theorem dX7_finished_8 : decode cX7_finished 8 = .ok (.invokevirtual 47, 3) := by decide +kernel
theorem dX7_finished_11 : decode cX7_finished 11 = .ok (.ireturn, 1) := by decide +kernel
theorem dX7_finished_12 : decode cX7_finished 12 = .ok (.aload_n 0, 1) := by decide +kernel
theorem dX7_finished_13 : decode cX7_finished 13 = .ok (.invokevirtual 51, 3) := by decide +kernel
theorem dX7_finished_16 : decode cX7_finished 16 = .ok (.iload_n 1, 1) := by decide +kernel
theorem dX7_finished_17 : decode cX7_finished 17 = .ok (.ireturn, 1) := by decide +kernel
theorem dX7_isPlace_0 : decode cX7_isPlace 0 = .ok (.iload_n 1, 1) := by decide +kernel
theorem dX7_isPlace_1 : decode cX7_isPlace 1 = .ok (.iconst 0, 1) := by decide +kernel
theorem dX7_isPlace_2 : decode cX7_isPlace 2 = .ok (.aload_n 0, 1) := by decide +kernel
theorem dX7_isPlace_3 : decode cX7_isPlace 3 = .ok (.getfield 7, 3) := by decide +kernel
theorem dX7_isPlace_6 : decode cX7_isPlace 6 = .ok (.iconst 0, 1) := by decide +kernel
theorem dX7_isPlace_7 : decode cX7_isPlace 7 = .ok (.iaload, 1) := by decide +kernel
theorem dX7_isPlace_8 : decode cX7_isPlace 8 = .ok (.iconst 1, 1) := by decide +kernel
theorem dX7_isPlace_9 : decode cX7_isPlace 9 = .ok (.isub, 1) := by decide +kernel
theorem dX7_isPlace_10 : decode cX7_isPlace 10 = .ok (.invokestatic 54, 3) := by decide +kernel
theorem dX7_isPlace_13 : decode cX7_isPlace 13 = .ok (.ifCond .eq 23, 3) := by decide +kernel
theorem dX7_isPlace_16 : decode cX7_isPlace 16 = .ok (.iload_n 2, 1) := by decide +kernel
theorem dX7_isPlace_17 : decode cX7_isPlace 17 = .ok (.iconst 0, 1) := by decide +kernel
theorem dX7_isPlace_18 : decode cX7_isPlace 18 = .ok (.aload_n 0, 1) := by decide +kernel
theorem dX7_isPlace_19 : decode cX7_isPlace 19 = .ok (.getfield 7, 3) := by decide +kernel
theorem dX7_isPlace_22 : decode cX7_isPlace 22 = .ok (.iconst 1, 1) := by decide +kernel
theorem dX7_isPlace_23 : decode cX7_isPlace 23 = .ok (.iaload, 1) := by decide +kernel
theorem dX7_isPlace_24 : decode cX7_isPlace 24 = .ok (.iconst 1, 1) := by decide +kernel
theorem dX7_isPlace_25 : decode cX7_isPlace 25 = .ok (.isub, 1) := by decide +kernel
theorem dX7_isPlace_26 : decode cX7_isPlace 26 = .ok (.invokestatic 54, 3) := by decide +kernel
theorem dX7_isPlace_29 : decode cX7_isPlace 29 = .ok (.ifCond .eq 7, 3) := by decide +kernel
theorem dX7_isPlace_32 : decode cX7_isPlace 32 = .ok (.iconst 1, 1) := by decide +kernel
theorem dX7_isPlace_33 : decode cX7_isPlace 33 = .ok (.goto 4, 3) := by decide +kernel
theorem dX7_isPlace_36 : decode cX7_isPlace 36 = .ok (.iconst 0, 1) := by decide +kernel
theorem dX7_isPlace_37 : decode cX7_isPlace 37 = .ok (.ireturn, 1) := by decide +kernel
theorem dX7_labelOf_0 : decode cX7_labelOf 0 = .ok (.iload_n 2, 1) := by decide +kernel
theorem dX7_labelOf_1 : decode cX7_labelOf 1 = .ok (.aload_n 0, 1) := by decide +kernel
theorem dX7_labelOf_2 : decode cX7_labelOf 2 = .ok (.getfield 7, 3) := by decide +kernel
theorem dX7_labelOf_5 : decode cX7_labelOf 5 = .ok (.iconst 0, 1) := by decide +kernel
theorem dX7_labelOf_6 : decode cX7_labelOf 6 = .ok (.iaload, 1) := by decide +kernel
theorem dX7_labelOf_7 : decode cX7_labelOf 7 = .ok (.imul, 1) := by decide +kernel
theorem dX7_labelOf_8 : decode cX7_labelOf 8 = .ok (.iload_n 2, 1) := by decide +kernel
theorem dX7_labelOf_9 : decode cX7_labelOf 9 = .ok (.iconst 2, 1) := by decide +kernel
theorem dX7_labelOf_10 : decode cX7_labelOf 10 = .ok (.irem, 1) := by decide +kernel
theorem dX7_labelOf_11 : decode cX7_labelOf 11 = .ok (.ifCond .ne 7, 3) := by decide +kernel
theorem dX7_labelOf_14 : decode cX7_labelOf 14 = .ok (.iload_n 1, 1) := by decide +kernel
theorem dX7_labelOf_15 : decode cX7_labelOf 15 = .ok (.goto 13, 3) := by decide +kernel
theorem dX7_labelOf_18 : decode cX7_labelOf 18 = .ok (.aload_n 0, 1) := by decide +kernel
theorem dX7_labelOf_19 : decode cX7_labelOf 19 = .ok (.getfield 7, 3) := by decide +kernel
theorem dX7_labelOf_22 : decode cX7_labelOf 22 = .ok (.iconst 0, 1) := by decide +kernel
theorem dX7_labelOf_23 : decode cX7_labelOf 23 = .ok (.iaload, 1) := by decide +kernel
theorem dX7_labelOf_24 : decode cX7_labelOf 24 = .ok (.iconst 1, 1) := by decide +kernel
theorem dX7_labelOf_25 : decode cX7_labelOf 25 = .ok (.isub, 1) := by decide +kernel
theorem dX7_labelOf_26 : decode cX7_labelOf 26 = .ok (.iload_n 1, 1) := by decide +kernel
theorem dX7_labelOf_27 : decode cX7_labelOf 27 = .ok (.isub, 1) := by decide +kernel
theorem dX7_labelOf_28 : decode cX7_labelOf 28 = .ok (.iadd, 1) := by decide +kernel
theorem dX7_labelOf_29 : decode cX7_labelOf 29 = .ok (.ireturn, 1) := by decide +kernel
theorem dX7_xOf_0 : decode cX7_xOf 0 = .ok (.iload_n 1, 1) := by decide +kernel
theorem dX7_xOf_1 : decode cX7_xOf 1 = .ok (.aload_n 0, 1) := by decide +kernel
theorem dX7_xOf_2 : decode cX7_xOf 2 = .ok (.getfield 7, 3) := by decide +kernel
theorem dX7_xOf_5 : decode cX7_xOf 5 = .ok (.iconst 0, 1) := by decide +kernel
theorem dX7_xOf_6 : decode cX7_xOf 6 = .ok (.iaload, 1) := by decide +kernel
theorem dX7_xOf_7 : decode cX7_xOf 7 = .ok (.irem, 1) := by decide +kernel
theorem dX7_xOf_8 : decode cX7_xOf 8 = .ok (.istore_n 2, 1) := by decide +kernel
theorem dX7_xOf_9 : decode cX7_xOf 9 = .ok (.iload_n 1, 1) := by decide +kernel
theorem dX7_xOf_10 : decode cX7_xOf 10 = .ok (.aload_n 0, 1) := by decide +kernel
theorem dX7_xOf_11 : decode cX7_xOf 11 = .ok (.getfield 7, 3) := by decide +kernel
theorem dX7_xOf_14 : decode cX7_xOf 14 = .ok (.iconst 0, 1) := by decide +kernel
theorem dX7_xOf_15 : decode cX7_xOf 15 = .ok (.iaload, 1) := by decide +kernel
theorem dX7_xOf_16 : decode cX7_xOf 16 = .ok (.idiv, 1) := by decide +kernel
theorem dX7_xOf_17 : decode cX7_xOf 17 = .ok (.iconst 2, 1) := by decide +kernel
theorem dX7_xOf_18 : decode cX7_xOf 18 = .ok (.irem, 1) := by decide +kernel
theorem dX7_xOf_19 : decode cX7_xOf 19 = .ok (.ifCond .ne 7, 3) := by decide +kernel
theorem dX7_xOf_22 : decode cX7_xOf 22 = .ok (.iload_n 2, 1) := by decide +kernel
theorem dX7_xOf_23 : decode cX7_xOf 23 = .ok (.goto 13, 3) := by decide +kernel
theorem dX7_xOf_26 : decode cX7_xOf 26 = .ok (.aload_n 0, 1) := by decide +kernel
theorem dX7_xOf_27 : decode cX7_xOf 27 = .ok (.getfield 7, 3) := by decide +kernel
theorem dX7_xOf_30 : decode cX7_xOf 30 = .ok (.iconst 0, 1) := by decide +kernel
theorem dX7_xOf_31 : decode cX7_xOf 31 = .ok (.iaload, 1) := by decide +kernel
theorem dX7_xOf_32 : decode cX7_xOf 32 = .ok (.iconst 1, 1) := by decide +kernel
theorem dX7_xOf_33 : decode cX7_xOf 33 = .ok (.isub, 1) := by decide +kernel
theorem dX7_xOf_34 : decode cX7_xOf 34 = .ok (.iload_n 2, 1) := by decide +kernel
theorem dX7_xOf_35 : decode cX7_xOf 35 = .ok (.isub, 1) := by decide +kernel
theorem dX7_xOf_36 : decode cX7_xOf 36 = .ok (.ireturn, 1) := by decide +kernel
theorem dX7_yOf_0 : decode cX7_yOf 0 = .ok (.iload_n 1, 1) := by decide +kernel
theorem dX7_yOf_1 : decode cX7_yOf 1 = .ok (.aload_n 0, 1) := by decide +kernel
theorem dX7_yOf_2 : decode cX7_yOf 2 = .ok (.getfield 7, 3) := by decide +kernel
theorem dX7_yOf_5 : decode cX7_yOf 5 = .ok (.iconst 0, 1) := by decide +kernel
theorem dX7_yOf_6 : decode cX7_yOf 6 = .ok (.iaload, 1) := by decide +kernel
theorem dX7_yOf_7 : decode cX7_yOf 7 = .ok (.idiv, 1) := by decide +kernel
theorem dX7_yOf_8 : decode cX7_yOf 8 = .ok (.ireturn, 1) := by decide +kernel
theorem dX7_toldOf_0 : decode cX7_toldOf 0 = .ok (.bipush 10, 2) := by decide +kernel
theorem dX7_toldOf_2 : decode cX7_toldOf 2 = .ok (.aload_n 0, 1) := by decide +kernel
theorem dX7_toldOf_3 : decode cX7_toldOf 3 = .ok (.iload_n 1, 1) := by decide +kernel
theorem dX7_toldOf_4 : decode cX7_toldOf 4 = .ok (.invokevirtual 58, 3) := by decide +kernel
theorem dX7_toldOf_7 : decode cX7_toldOf 7 = .ok (.imul, 1) := by decide +kernel
theorem dX7_toldOf_8 : decode cX7_toldOf 8 = .ok (.aload_n 0, 1) := by decide +kernel
theorem dX7_toldOf_9 : decode cX7_toldOf 9 = .ok (.iload_n 1, 1) := by decide +kernel
theorem dX7_toldOf_10 : decode cX7_toldOf 10 = .ok (.invokevirtual 61, 3) := by decide +kernel
theorem dX7_toldOf_13 : decode cX7_toldOf 13 = .ok (.iadd, 1) := by decide +kernel
theorem dX7_toldOf_14 : decode cX7_toldOf 14 = .ok (.ireturn, 1) := by decide +kernel
theorem dX7_beside_0 : decode cX7_beside 0 = .ok (.aload_n 0, 1) := by decide +kernel
theorem dX7_beside_1 : decode cX7_beside 1 = .ok (.iload_n 1, 1) := by decide +kernel
theorem dX7_beside_2 : decode cX7_beside 2 = .ok (.invokevirtual 58, 3) := by decide +kernel
theorem dX7_beside_5 : decode cX7_beside 5 = .ok (.iload_n 2, 1) := by decide +kernel
theorem dX7_beside_6 : decode cX7_beside 6 = .ok (.ifCond .ne 7, 3) := by decide +kernel
theorem dX7_beside_9 : decode cX7_beside 9 = .ok (.iconst 1, 1) := by decide +kernel
theorem dX7_beside_10 : decode cX7_beside 10 = .ok (.goto 13, 3) := by decide +kernel
theorem dX7_beside_13 : decode cX7_beside 13 = .ok (.iload_n 2, 1) := by decide +kernel
theorem dX7_beside_14 : decode cX7_beside 14 = .ok (.iconst 2, 1) := by decide +kernel
theorem dX7_beside_15 : decode cX7_beside 15 = .ok (.if_icmp .ne 7, 3) := by decide +kernel
theorem dX7_beside_18 : decode cX7_beside 18 = .ok (.iconst (-1), 1) := by decide +kernel
theorem dX7_beside_19 : decode cX7_beside 19 = .ok (.goto 4, 3) := by decide +kernel
theorem dX7_beside_22 : decode cX7_beside 22 = .ok (.iconst 0, 1) := by decide +kernel
theorem dX7_beside_23 : decode cX7_beside 23 = .ok (.iadd, 1) := by decide +kernel
theorem dX7_beside_24 : decode cX7_beside 24 = .ok (.istore_n 3, 1) := by decide +kernel
theorem dX7_beside_25 : decode cX7_beside 25 = .ok (.aload_n 0, 1) := by decide +kernel
theorem dX7_beside_26 : decode cX7_beside 26 = .ok (.iload_n 1, 1) := by decide +kernel
theorem dX7_beside_27 : decode cX7_beside 27 = .ok (.invokevirtual 61, 3) := by decide +kernel
theorem dX7_beside_30 : decode cX7_beside 30 = .ok (.iload_n 2, 1) := by decide +kernel
theorem dX7_beside_31 : decode cX7_beside 31 = .ok (.iconst 1, 1) := by decide +kernel
theorem dX7_beside_32 : decode cX7_beside 32 = .ok (.if_icmp .ne 7, 3) := by decide +kernel
theorem dX7_beside_35 : decode cX7_beside 35 = .ok (.iconst 1, 1) := by decide +kernel
theorem dX7_beside_36 : decode cX7_beside 36 = .ok (.goto 13, 3) := by decide +kernel
theorem dX7_beside_39 : decode cX7_beside 39 = .ok (.iload_n 2, 1) := by decide +kernel
theorem dX7_beside_40 : decode cX7_beside 40 = .ok (.iconst 3, 1) := by decide +kernel
theorem dX7_beside_41 : decode cX7_beside 41 = .ok (.if_icmp .ne 7, 3) := by decide +kernel
theorem dX7_beside_44 : decode cX7_beside 44 = .ok (.iconst (-1), 1) := by decide +kernel
theorem dX7_beside_45 : decode cX7_beside 45 = .ok (.goto 4, 3) := by decide +kernel
theorem dX7_beside_48 : decode cX7_beside 48 = .ok (.iconst 0, 1) := by decide +kernel
theorem dX7_beside_49 : decode cX7_beside 49 = .ok (.iadd, 1) := by decide +kernel
theorem dX7_beside_50 : decode cX7_beside 50 = .ok (.istore 4, 2) := by decide +kernel
theorem dX7_beside_52 : decode cX7_beside 52 = .ok (.aload_n 0, 1) := by decide +kernel
theorem dX7_beside_53 : decode cX7_beside 53 = .ok (.iload_n 3, 1) := by decide +kernel
theorem dX7_beside_54 : decode cX7_beside 54 = .ok (.iload 4, 2) := by decide +kernel
theorem dX7_beside_56 : decode cX7_beside 56 = .ok (.invokevirtual 64, 3) := by decide +kernel
theorem dX7_beside_59 : decode cX7_beside 59 = .ok (.ifCond .eq 13, 3) := by decide +kernel
theorem dX7_beside_62 : decode cX7_beside 62 = .ok (.aload_n 0, 1) := by decide +kernel
theorem dX7_beside_63 : decode cX7_beside 63 = .ok (.iload_n 3, 1) := by decide +kernel
theorem dX7_beside_64 : decode cX7_beside 64 = .ok (.iload 4, 2) := by decide +kernel
theorem dX7_beside_66 : decode cX7_beside 66 = .ok (.invokevirtual 68, 3) := by decide +kernel
theorem dX7_beside_69 : decode cX7_beside 69 = .ok (.goto 4, 3) := by decide +kernel
theorem dX7_beside_72 : decode cX7_beside 72 = .ok (.iconst (-1), 1) := by decide +kernel
theorem dX7_beside_73 : decode cX7_beside 73 = .ok (.ireturn, 1) := by decide +kernel
theorem dX7_nextOf_0 : decode cX7_nextOf 0 = .ok (.iconst (-1), 1) := by decide +kernel
theorem dX7_nextOf_1 : decode cX7_nextOf 1 = .ok (.istore_n 3, 1) := by decide +kernel
theorem dX7_nextOf_2 : decode cX7_nextOf 2 = .ok (.iconst 0, 1) := by decide +kernel
theorem dX7_nextOf_3 : decode cX7_nextOf 3 = .ok (.istore 4, 2) := by decide +kernel
theorem dX7_nextOf_5 : decode cX7_nextOf 5 = .ok (.iload 4, 2) := by decide +kernel
theorem dX7_nextOf_7 : decode cX7_nextOf 7 = .ok (.iconst 4, 1) := by decide +kernel
theorem dX7_nextOf_8 : decode cX7_nextOf 8 = .ok (.if_icmp .ge 100, 3) := by decide +kernel
theorem dX7_nextOf_11 : decode cX7_nextOf 11 = .ok (.aload_n 0, 1) := by decide +kernel
theorem dX7_nextOf_12 : decode cX7_nextOf 12 = .ok (.iload_n 1, 1) := by decide +kernel
theorem dX7_nextOf_13 : decode cX7_nextOf 13 = .ok (.iload 4, 2) := by decide +kernel
theorem dX7_nextOf_15 : decode cX7_nextOf 15 = .ok (.invokevirtual 72, 3) := by decide +kernel
theorem dX7_nextOf_18 : decode cX7_nextOf 18 = .ok (.istore 5, 2) := by decide +kernel
theorem dX7_nextOf_20 : decode cX7_nextOf 20 = .ok (.iload 5, 2) := by decide +kernel
theorem dX7_nextOf_22 : decode cX7_nextOf 22 = .ok (.iconst (-1), 1) := by decide +kernel
theorem dX7_nextOf_23 : decode cX7_nextOf 23 = .ok (.if_icmp .eq 27, 3) := by decide +kernel
theorem dX7_nextOf_26 : decode cX7_nextOf 26 = .ok (.iload_n 2, 1) := by decide +kernel
theorem dX7_nextOf_27 : decode cX7_nextOf 27 = .ok (.iload_n 1, 1) := by decide +kernel
theorem dX7_nextOf_28 : decode cX7_nextOf 28 = .ok (.if_icmp .le 12, 3) := by decide +kernel
theorem dX7_nextOf_31 : decode cX7_nextOf 31 = .ok (.iload 5, 2) := by decide +kernel
theorem dX7_nextOf_33 : decode cX7_nextOf 33 = .ok (.iload_n 2, 1) := by decide +kernel
theorem dX7_nextOf_34 : decode cX7_nextOf 34 = .ok (.if_icmp .gt 16, 3) := by decide +kernel
theorem dX7_nextOf_37 : decode cX7_nextOf 37 = .ok (.goto 9, 3) := by decide +kernel
theorem dX7_nextOf_40 : decode cX7_nextOf 40 = .ok (.iload 5, 2) := by decide +kernel
theorem dX7_nextOf_42 : decode cX7_nextOf 42 = .ok (.iload_n 2, 1) := by decide +kernel
theorem dX7_nextOf_43 : decode cX7_nextOf 43 = .ok (.if_icmp .lt 7, 3) := by decide +kernel
theorem dX7_nextOf_46 : decode cX7_nextOf 46 = .ok (.iconst 1, 1) := by decide +kernel
theorem dX7_nextOf_47 : decode cX7_nextOf 47 = .ok (.goto 4, 3) := by decide +kernel
theorem dX7_nextOf_50 : decode cX7_nextOf 50 = .ok (.iconst 0, 1) := by decide +kernel
theorem dX7_nextOf_51 : decode cX7_nextOf 51 = .ok (.istore 6, 2) := by decide +kernel
theorem dX7_nextOf_53 : decode cX7_nextOf 53 = .ok (.iload_n 3, 1) := by decide +kernel
theorem dX7_nextOf_54 : decode cX7_nextOf 54 = .ok (.iconst (-1), 1) := by decide +kernel
theorem dX7_nextOf_55 : decode cX7_nextOf 55 = .ok (.if_icmp .eq 23, 3) := by decide +kernel
theorem dX7_nextOf_58 : decode cX7_nextOf 58 = .ok (.iload_n 2, 1) := by decide +kernel
theorem dX7_nextOf_59 : decode cX7_nextOf 59 = .ok (.iload_n 1, 1) := by decide +kernel
theorem dX7_nextOf_60 : decode cX7_nextOf 60 = .ok (.if_icmp .le 12, 3) := by decide +kernel
theorem dX7_nextOf_63 : decode cX7_nextOf 63 = .ok (.iload 5, 2) := by decide +kernel
theorem dX7_nextOf_65 : decode cX7_nextOf 65 = .ok (.iload_n 3, 1) := by decide +kernel
theorem dX7_nextOf_66 : decode cX7_nextOf 66 = .ok (.if_icmp .le 16, 3) := by decide +kernel
theorem dX7_nextOf_69 : decode cX7_nextOf 69 = .ok (.goto 9, 3) := by decide +kernel
theorem dX7_nextOf_72 : decode cX7_nextOf 72 = .ok (.iload 5, 2) := by decide +kernel
theorem dX7_nextOf_74 : decode cX7_nextOf 74 = .ok (.iload_n 3, 1) := by decide +kernel
theorem dX7_nextOf_75 : decode cX7_nextOf 75 = .ok (.if_icmp .ge 7, 3) := by decide +kernel
theorem dX7_nextOf_78 : decode cX7_nextOf 78 = .ok (.iconst 1, 1) := by decide +kernel
theorem dX7_nextOf_79 : decode cX7_nextOf 79 = .ok (.goto 4, 3) := by decide +kernel
theorem dX7_nextOf_82 : decode cX7_nextOf 82 = .ok (.iconst 0, 1) := by decide +kernel
theorem dX7_nextOf_83 : decode cX7_nextOf 83 = .ok (.istore 7, 2) := by decide +kernel
theorem dX7_nextOf_85 : decode cX7_nextOf 85 = .ok (.iload 6, 2) := by decide +kernel
theorem dX7_nextOf_87 : decode cX7_nextOf 87 = .ok (.ifCond .eq 13, 3) := by decide +kernel
theorem dX7_nextOf_90 : decode cX7_nextOf 90 = .ok (.iload 7, 2) := by decide +kernel
theorem dX7_nextOf_92 : decode cX7_nextOf 92 = .ok (.ifCond .eq 8, 3) := by decide +kernel
theorem dX7_nextOf_95 : decode cX7_nextOf 95 = .ok (.iload 5, 2) := by decide +kernel
theorem dX7_nextOf_97 : decode cX7_nextOf 97 = .ok (.goto 4, 3) := by decide +kernel
theorem dX7_nextOf_100 : decode cX7_nextOf 100 = .ok (.iload_n 3, 1) := by decide +kernel
theorem dX7_nextOf_101 : decode cX7_nextOf 101 = .ok (.istore_n 3, 1) := by decide +kernel
theorem dX7_nextOf_102 : decode cX7_nextOf 102 = .ok (.iinc 4 1, 3) := by decide +kernel
theorem dX7_nextOf_105 : decode cX7_nextOf 105 = .ok (.goto (-100), 3) := by decide +kernel
theorem dX7_nextOf_108 : decode cX7_nextOf 108 = .ok (.iload_n 3, 1) := by decide +kernel
theorem dX7_nextOf_109 : decode cX7_nextOf 109 = .ok (.ireturn, 1) := by decide +kernel
theorem dX7_farOf_0 : decode cX7_farOf 0 = .ok (.iconst 0, 1) := by decide +kernel
theorem dX7_farOf_1 : decode cX7_farOf 1 = .ok (.istore_n 3, 1) := by decide +kernel
theorem dX7_farOf_2 : decode cX7_farOf 2 = .ok (.iload_n 1, 1) := by decide +kernel
theorem dX7_farOf_3 : decode cX7_farOf 3 = .ok (.istore 4, 2) := by decide +kernel
theorem dX7_farOf_5 : decode cX7_farOf 5 = .ok (.iload 4, 2) := by decide +kernel
theorem dX7_farOf_7 : decode cX7_farOf 7 = .ok (.iload_n 2, 1) := by decide +kernel
theorem dX7_farOf_8 : decode cX7_farOf 8 = .ok (.if_icmp .eq 18, 3) := by decide +kernel
theorem dX7_farOf_11 : decode cX7_farOf 11 = .ok (.aload_n 0, 1) := by decide +kernel
theorem dX7_farOf_12 : decode cX7_farOf 12 = .ok (.iload 4, 2) := by decide +kernel
theorem dX7_farOf_14 : decode cX7_farOf 14 = .ok (.iload_n 2, 1) := by decide +kernel
theorem dX7_farOf_15 : decode cX7_farOf 15 = .ok (.invokevirtual 75, 3) := by decide +kernel
theorem dX7_farOf_18 : decode cX7_farOf 18 = .ok (.istore 4, 2) := by decide +kernel
theorem dX7_farOf_20 : decode cX7_farOf 20 = .ok (.iinc 3 1, 3) := by decide +kernel
theorem dX7_farOf_23 : decode cX7_farOf 23 = .ok (.goto (-18), 3) := by decide +kernel
theorem dX7_farOf_26 : decode cX7_farOf 26 = .ok (.iload_n 3, 1) := by decide +kernel
theorem dX7_farOf_27 : decode cX7_farOf 27 = .ok (.ireturn, 1) := by decide +kernel
theorem dX7_spotOf_0 : decode cX7_spotOf 0 = .ok (.iconst 4, 1) := by decide +kernel
theorem dX7_spotOf_1 : decode cX7_spotOf 1 = .ok (.bipush 8, 2) := by decide +kernel
theorem dX7_spotOf_3 : decode cX7_spotOf 3 = .ok (.iload_n 1, 1) := by decide +kernel
theorem dX7_spotOf_4 : decode cX7_spotOf 4 = .ok (.imul, 1) := by decide +kernel
theorem dX7_spotOf_5 : decode cX7_spotOf 5 = .ok (.iadd, 1) := by decide +kernel
theorem dX7_spotOf_6 : decode cX7_spotOf 6 = .ok (.iload_n 2, 1) := by decide +kernel
theorem dX7_spotOf_7 : decode cX7_spotOf 7 = .ok (.iadd, 1) := by decide +kernel
theorem dX7_spotOf_8 : decode cX7_spotOf 8 = .ok (.ireturn, 1) := by decide +kernel
theorem dX7_of0_0 : decode cX7_of0 0 = .ok (.aload_n 0, 1) := by decide +kernel
theorem dX7_of0_1 : decode cX7_of0 1 = .ok (.getfield 7, 3) := by decide +kernel
theorem dX7_of0_4 : decode cX7_of0 4 = .ok (.iconst 4, 1) := by decide +kernel
theorem dX7_of0_5 : decode cX7_of0 5 = .ok (.bipush 8, 2) := by decide +kernel
theorem dX7_of0_7 : decode cX7_of0 7 = .ok (.iload_n 1, 1) := by decide +kernel
theorem dX7_of0_8 : decode cX7_of0 8 = .ok (.imul, 1) := by decide +kernel
theorem dX7_of0_9 : decode cX7_of0 9 = .ok (.iadd, 1) := by decide +kernel
theorem dX7_of0_10 : decode cX7_of0 10 = .ok (.iload_n 2, 1) := by decide +kernel
theorem dX7_of0_11 : decode cX7_of0 11 = .ok (.iadd, 1) := by decide +kernel
theorem dX7_of0_12 : decode cX7_of0 12 = .ok (.iaload, 1) := by decide +kernel
theorem dX7_of0_13 : decode cX7_of0 13 = .ok (.ireturn, 1) := by decide +kernel
theorem dX7_isMessage_0 : decode cX7_isMessage 0 = .ok (.iload_n 1, 1) := by decide +kernel
theorem dX7_isMessage_1 : decode cX7_isMessage 1 = .ok (.iconst 0, 1) := by decide +kernel
theorem dX7_isMessage_2 : decode cX7_isMessage 2 = .ok (.aload_n 0, 1) := by decide +kernel
theorem dX7_isMessage_3 : decode cX7_isMessage 3 = .ok (.getfield 7, 3) := by decide +kernel
theorem dX7_isMessage_6 : decode cX7_isMessage 6 = .ok (.iconst 3, 1) := by decide +kernel
theorem dX7_isMessage_7 : decode cX7_isMessage 7 = .ok (.iaload, 1) := by decide +kernel
theorem dX7_isMessage_8 : decode cX7_isMessage 8 = .ok (.iconst 1, 1) := by decide +kernel
theorem dX7_isMessage_9 : decode cX7_isMessage 9 = .ok (.isub, 1) := by decide +kernel
theorem dX7_isMessage_10 : decode cX7_isMessage 10 = .ok (.invokestatic 54, 3) := by decide +kernel
theorem dX7_isMessage_13 : decode cX7_isMessage 13 = .ok (.ireturn, 1) := by decide +kernel
theorem dX7_isGoal_0 : decode cX7_isGoal 0 = .ok (.aload_n 0, 1) := by decide +kernel
theorem dX7_isGoal_1 : decode cX7_isGoal 1 = .ok (.iload_n 1, 1) := by decide +kernel
theorem dX7_isGoal_2 : decode cX7_isGoal 2 = .ok (.iconst 2, 1) := by decide +kernel
theorem dX7_isGoal_3 : decode cX7_isGoal 3 = .ok (.iload_n 2, 1) := by decide +kernel
theorem dX7_isGoal_4 : decode cX7_isGoal 4 = .ok (.bipush 18, 2) := by decide +kernel
theorem dX7_isGoal_6 : decode cX7_isGoal 6 = .ok (.idiv, 1) := by decide +kernel
theorem dX7_isGoal_7 : decode cX7_isGoal 7 = .ok (.iadd, 1) := by decide +kernel
theorem dX7_isGoal_8 : decode cX7_isGoal 8 = .ok (.invokevirtual 78, 3) := by decide +kernel
theorem dX7_isGoal_11 : decode cX7_isGoal 11 = .ok (.iload_n 2, 1) := by decide +kernel
theorem dX7_isGoal_12 : decode cX7_isGoal 12 = .ok (.bipush 18, 2) := by decide +kernel
theorem dX7_isGoal_14 : decode cX7_isGoal 14 = .ok (.irem, 1) := by decide +kernel
theorem dX7_isGoal_15 : decode cX7_isGoal 15 = .ok (.ishr, 1) := by decide +kernel
theorem dX7_isGoal_16 : decode cX7_isGoal 16 = .ok (.iconst 1, 1) := by decide +kernel
theorem dX7_isGoal_17 : decode cX7_isGoal 17 = .ok (.iand, 1) := by decide +kernel
theorem dX7_isGoal_18 : decode cX7_isGoal 18 = .ok (.iconst 1, 1) := by decide +kernel
theorem dX7_isGoal_19 : decode cX7_isGoal 19 = .ok (.if_icmp .ne 7, 3) := by decide +kernel
theorem dX7_isGoal_22 : decode cX7_isGoal 22 = .ok (.iconst 1, 1) := by decide +kernel
theorem dX7_isGoal_23 : decode cX7_isGoal 23 = .ok (.goto 4, 3) := by decide +kernel
theorem dX7_isGoal_26 : decode cX7_isGoal 26 = .ok (.iconst 0, 1) := by decide +kernel
theorem dX7_isGoal_27 : decode cX7_isGoal 27 = .ok (.ireturn, 1) := by decide +kernel
theorem dX7_laysWay_0 : decode cX7_laysWay 0 = .ok (.iconst 2, 1) := by decide +kernel
theorem dX7_laysWay_1 : decode cX7_laysWay 1 = .ok (.iload_n 1, 1) := by decide +kernel
theorem dX7_laysWay_2 : decode cX7_laysWay 2 = .ok (.imul, 1) := by decide +kernel
theorem dX7_laysWay_3 : decode cX7_laysWay 3 = .ok (.iload_n 2, 1) := by decide +kernel
theorem dX7_laysWay_4 : decode cX7_laysWay 4 = .ok (.iadd, 1) := by decide +kernel
theorem dX7_laysWay_5 : decode cX7_laysWay 5 = .ok (.istore_n 3, 1) := by decide +kernel
theorem dX7_laysWay_6 : decode cX7_laysWay 6 = .ok (.aload_n 0, 1) := by decide +kernel
theorem dX7_laysWay_7 : decode cX7_laysWay 7 = .ok (.getfield 7, 3) := by decide +kernel
theorem dX7_laysWay_10 : decode cX7_laysWay 10 = .ok (.iconst 0, 1) := by decide +kernel
theorem dX7_laysWay_11 : decode cX7_laysWay 11 = .ok (.iaload, 1) := by decide +kernel
theorem dX7_laysWay_12 : decode cX7_laysWay 12 = .ok (.aload_n 0, 1) := by decide +kernel
theorem dX7_laysWay_13 : decode cX7_laysWay 13 = .ok (.getfield 7, 3) := by decide +kernel
theorem dX7_laysWay_16 : decode cX7_laysWay 16 = .ok (.iconst 1, 1) := by decide +kernel
theorem dX7_laysWay_17 : decode cX7_laysWay 17 = .ok (.iaload, 1) := by decide +kernel
theorem dX7_laysWay_18 : decode cX7_laysWay 18 = .ok (.imul, 1) := by decide +kernel
theorem dX7_laysWay_19 : decode cX7_laysWay 19 = .ok (.istore 4, 2) := by decide +kernel
theorem dX7_laysWay_21 : decode cX7_laysWay 21 = .ok (.aload_n 0, 1) := by decide +kernel
theorem dX7_laysWay_22 : decode cX7_laysWay 22 = .ok (.iload_n 1, 1) := by decide +kernel
theorem dX7_laysWay_23 : decode cX7_laysWay 23 = .ok (.iconst 0, 1) := by decide +kernel
theorem dX7_laysWay_24 : decode cX7_laysWay 24 = .ok (.invokevirtual 78, 3) := by decide +kernel
theorem dX7_laysWay_27 : decode cX7_laysWay 27 = .ok (.istore 5, 2) := by decide +kernel
theorem dX7_laysWay_29 : decode cX7_laysWay 29 = .ok (.iconst 0, 1) := by decide +kernel
theorem dX7_laysWay_30 : decode cX7_laysWay 30 = .ok (.istore 6, 2) := by decide +kernel
theorem dX7_laysWay_32 : decode cX7_laysWay 32 = .ok (.aload_n 0, 1) := by decide +kernel
theorem dX7_laysWay_33 : decode cX7_laysWay 33 = .ok (.getfield 25, 3) := by decide +kernel
theorem dX7_laysWay_36 : decode cX7_laysWay 36 = .ok (.bipush 37, 2) := by decide +kernel
theorem dX7_laysWay_38 : decode cX7_laysWay 38 = .ok (.iload_n 3, 1) := by decide +kernel
theorem dX7_laysWay_39 : decode cX7_laysWay 39 = .ok (.imul, 1) := by decide +kernel
theorem dX7_laysWay_40 : decode cX7_laysWay 40 = .ok (.iload 5, 2) := by decide +kernel
theorem dX7_laysWay_42 : decode cX7_laysWay 42 = .ok (.iastore, 1) := by decide +kernel
theorem dX7_laysWay_43 : decode cX7_laysWay 43 = .ok (.aload_n 0, 1) := by decide +kernel
theorem dX7_laysWay_44 : decode cX7_laysWay 44 = .ok (.getfield 31, 3) := by decide +kernel
theorem dX7_laysWay_47 : decode cX7_laysWay 47 = .ok (.iload_n 3, 1) := by decide +kernel
theorem dX7_laysWay_48 : decode cX7_laysWay 48 = .ok (.iconst 0, 1) := by decide +kernel
theorem dX7_laysWay_49 : decode cX7_laysWay 49 = .ok (.iastore, 1) := by decide +kernel
theorem dX7_laysWay_50 : decode cX7_laysWay 50 = .ok (.iload_n 2, 1) := by decide +kernel
theorem dX7_laysWay_51 : decode cX7_laysWay 51 = .ok (.ifCond .ne 7, 3) := by decide +kernel
theorem dX7_laysWay_54 : decode cX7_laysWay 54 = .ok (.iconst 1, 1) := by decide +kernel
theorem dX7_laysWay_55 : decode cX7_laysWay 55 = .ok (.goto 4, 3) := by decide +kernel
theorem dX7_laysWay_58 : decode cX7_laysWay 58 = .ok (.iconst (-1), 1) := by decide +kernel
theorem dX7_laysWay_59 : decode cX7_laysWay 59 = .ok (.istore 7, 2) := by decide +kernel
theorem dX7_laysWay_61 : decode cX7_laysWay 61 = .ok (.iload 5, 2) := by decide +kernel
theorem dX7_laysWay_63 : decode cX7_laysWay 63 = .ok (.iload 7, 2) := by decide +kernel
theorem dX7_laysWay_65 : decode cX7_laysWay 65 = .ok (.iadd, 1) := by decide +kernel
theorem dX7_laysWay_66 : decode cX7_laysWay 66 = .ok (.istore 8, 2) := by decide +kernel
theorem dX7_laysWay_68 : decode cX7_laysWay 68 = .ok (.iload 8, 2) := by decide +kernel
theorem dX7_laysWay_70 : decode cX7_laysWay 70 = .ok (.iconst 0, 1) := by decide +kernel
theorem dX7_laysWay_71 : decode cX7_laysWay 71 = .ok (.iload 4, 2) := by decide +kernel
theorem dX7_laysWay_73 : decode cX7_laysWay 73 = .ok (.iconst 1, 1) := by decide +kernel
theorem dX7_laysWay_74 : decode cX7_laysWay 74 = .ok (.isub, 1) := by decide +kernel
theorem dX7_laysWay_75 : decode cX7_laysWay 75 = .ok (.invokestatic 54, 3) := by decide +kernel
theorem dX7_laysWay_78 : decode cX7_laysWay 78 = .ok (.ifCond .eq 88, 3) := by decide +kernel
theorem dX7_laysWay_81 : decode cX7_laysWay 81 = .ok (.aload_n 0, 1) := by decide +kernel
theorem dX7_laysWay_82 : decode cX7_laysWay 82 = .ok (.iload_n 1, 1) := by decide +kernel
theorem dX7_laysWay_83 : decode cX7_laysWay 83 = .ok (.iload 8, 2) := by decide +kernel
theorem dX7_laysWay_85 : decode cX7_laysWay 85 = .ok (.invokevirtual 81, 3) := by decide +kernel
theorem dX7_laysWay_88 : decode cX7_laysWay 88 = .ok (.ifCond .eq 68, 3) := by decide +kernel
theorem dX7_laysWay_91 : decode cX7_laysWay 91 = .ok (.iload 5, 2) := by decide +kernel
theorem dX7_laysWay_93 : decode cX7_laysWay 93 = .ok (.iload 8, 2) := by decide +kernel
theorem dX7_laysWay_95 : decode cX7_laysWay 95 = .ok (.if_icmp .eq 33, 3) := by decide +kernel
theorem dX7_laysWay_98 : decode cX7_laysWay 98 = .ok (.aload_n 0, 1) := by decide +kernel
theorem dX7_laysWay_99 : decode cX7_laysWay 99 = .ok (.iload 5, 2) := by decide +kernel
theorem dX7_laysWay_101 : decode cX7_laysWay 101 = .ok (.iload 8, 2) := by decide +kernel
theorem dX7_laysWay_103 : decode cX7_laysWay 103 = .ok (.invokevirtual 75, 3) := by decide +kernel
theorem dX7_laysWay_106 : decode cX7_laysWay 106 = .ok (.istore 5, 2) := by decide +kernel
theorem dX7_laysWay_108 : decode cX7_laysWay 108 = .ok (.iinc 6 1, 3) := by decide +kernel
theorem dX7_laysWay_111 : decode cX7_laysWay 111 = .ok (.aload_n 0, 1) := by decide +kernel
theorem dX7_laysWay_112 : decode cX7_laysWay 112 = .ok (.getfield 25, 3) := by decide +kernel
theorem dX7_laysWay_115 : decode cX7_laysWay 115 = .ok (.bipush 37, 2) := by decide +kernel
theorem dX7_laysWay_117 : decode cX7_laysWay 117 = .ok (.iload_n 3, 1) := by decide +kernel
theorem dX7_laysWay_118 : decode cX7_laysWay 118 = .ok (.imul, 1) := by decide +kernel
theorem dX7_laysWay_119 : decode cX7_laysWay 119 = .ok (.iload 6, 2) := by decide +kernel
theorem dX7_laysWay_121 : decode cX7_laysWay 121 = .ok (.iadd, 1) := by decide +kernel
theorem dX7_laysWay_122 : decode cX7_laysWay 122 = .ok (.iload 5, 2) := by decide +kernel
theorem dX7_laysWay_124 : decode cX7_laysWay 124 = .ok (.iastore, 1) := by decide +kernel
theorem dX7_laysWay_125 : decode cX7_laysWay 125 = .ok (.goto (-34), 3) := by decide +kernel
theorem dX7_laysWay_128 : decode cX7_laysWay 128 = .ok (.aload_n 0, 1) := by decide +kernel
theorem dX7_laysWay_129 : decode cX7_laysWay 129 = .ok (.getfield 34, 3) := by decide +kernel
theorem dX7_laysWay_132 : decode cX7_laysWay 132 = .ok (.bipush 36, 2) := by decide +kernel
theorem dX7_laysWay_134 : decode cX7_laysWay 134 = .ok (.iload_n 3, 1) := by decide +kernel
theorem dX7_laysWay_135 : decode cX7_laysWay 135 = .ok (.imul, 1) := by decide +kernel
theorem dX7_laysWay_136 : decode cX7_laysWay 136 = .ok (.aload_n 0, 1) := by decide +kernel
theorem dX7_laysWay_137 : decode cX7_laysWay 137 = .ok (.getfield 31, 3) := by decide +kernel
theorem dX7_laysWay_140 : decode cX7_laysWay 140 = .ok (.iload_n 3, 1) := by decide +kernel
theorem dX7_laysWay_141 : decode cX7_laysWay 141 = .ok (.iaload, 1) := by decide +kernel
theorem dX7_laysWay_142 : decode cX7_laysWay 142 = .ok (.iadd, 1) := by decide +kernel
theorem dX7_laysWay_143 : decode cX7_laysWay 143 = .ok (.iload 6, 2) := by decide +kernel
theorem dX7_laysWay_145 : decode cX7_laysWay 145 = .ok (.iastore, 1) := by decide +kernel
theorem dX7_laysWay_146 : decode cX7_laysWay 146 = .ok (.aload_n 0, 1) := by decide +kernel
theorem dX7_laysWay_147 : decode cX7_laysWay 147 = .ok (.getfield 31, 3) := by decide +kernel
theorem dX7_laysWay_150 : decode cX7_laysWay 150 = .ok (.iload_n 3, 1) := by decide +kernel
theorem dX7_laysWay_151 : decode cX7_laysWay 151 = .ok (.dup2, 1) := by decide +kernel
theorem dX7_laysWay_152 : decode cX7_laysWay 152 = .ok (.iaload, 1) := by decide +kernel
theorem dX7_laysWay_153 : decode cX7_laysWay 153 = .ok (.iconst 1, 1) := by decide +kernel
theorem dX7_laysWay_154 : decode cX7_laysWay 154 = .ok (.iadd, 1) := by decide +kernel
theorem dX7_laysWay_155 : decode cX7_laysWay 155 = .ok (.iastore, 1) := by decide +kernel
theorem dX7_laysWay_156 : decode cX7_laysWay 156 = .ok (.iload 8, 2) := by decide +kernel
theorem dX7_laysWay_158 : decode cX7_laysWay 158 = .ok (.iload 7, 2) := by decide +kernel
theorem dX7_laysWay_160 : decode cX7_laysWay 160 = .ok (.iadd, 1) := by decide +kernel
theorem dX7_laysWay_161 : decode cX7_laysWay 161 = .ok (.istore 8, 2) := by decide +kernel
theorem dX7_laysWay_163 : decode cX7_laysWay 163 = .ok (.goto (-95), 3) := by decide +kernel
theorem dX7_laysWay_166 : decode cX7_laysWay 166 = .ok (.aload_n 0, 1) := by decide +kernel
theorem dX7_laysWay_167 : decode cX7_laysWay 167 = .ok (.getfield 28, 3) := by decide +kernel
theorem dX7_laysWay_170 : decode cX7_laysWay 170 = .ok (.iload_n 3, 1) := by decide +kernel
theorem dX7_laysWay_171 : decode cX7_laysWay 171 = .ok (.iload 6, 2) := by decide +kernel
theorem dX7_laysWay_173 : decode cX7_laysWay 173 = .ok (.iastore, 1) := by decide +kernel
theorem dX7_laysWay_174 : decode cX7_laysWay 174 = .ok (.return_, 1) := by decide +kernel
theorem dX7_laysWays_0 : decode cX7_laysWays 0 = .ok (.iconst 0, 1) := by decide +kernel
theorem dX7_laysWays_1 : decode cX7_laysWays 1 = .ok (.istore_n 1, 1) := by decide +kernel
theorem dX7_laysWays_2 : decode cX7_laysWays 2 = .ok (.iload_n 1, 1) := by decide +kernel
theorem dX7_laysWays_3 : decode cX7_laysWays 3 = .ok (.aload_n 0, 1) := by decide +kernel
theorem dX7_laysWays_4 : decode cX7_laysWays 4 = .ok (.getfield 7, 3) := by decide +kernel
theorem dX7_laysWays_7 : decode cX7_laysWays 7 = .ok (.iconst 3, 1) := by decide +kernel
theorem dX7_laysWays_8 : decode cX7_laysWays 8 = .ok (.iaload, 1) := by decide +kernel
theorem dX7_laysWays_9 : decode cX7_laysWays 9 = .ok (.if_icmp .ge 21, 3) := by decide +kernel
theorem dX7_laysWays_12 : decode cX7_laysWays 12 = .ok (.aload_n 0, 1) := by decide +kernel
theorem dX7_laysWays_13 : decode cX7_laysWays 13 = .ok (.iload_n 1, 1) := by decide +kernel
theorem dX7_laysWays_14 : decode cX7_laysWays 14 = .ok (.iconst 0, 1) := by decide +kernel
theorem dX7_laysWays_15 : decode cX7_laysWays 15 = .ok (.invokevirtual 84, 3) := by decide +kernel
theorem dX7_laysWays_18 : decode cX7_laysWays 18 = .ok (.aload_n 0, 1) := by decide +kernel
theorem dX7_laysWays_19 : decode cX7_laysWays 19 = .ok (.iload_n 1, 1) := by decide +kernel
theorem dX7_laysWays_20 : decode cX7_laysWays 20 = .ok (.iconst 1, 1) := by decide +kernel
theorem dX7_laysWays_21 : decode cX7_laysWays 21 = .ok (.invokevirtual 84, 3) := by decide +kernel
theorem dX7_laysWays_24 : decode cX7_laysWays 24 = .ok (.iinc 1 1, 3) := by decide +kernel
theorem dX7_laysWays_27 : decode cX7_laysWays 27 = .ok (.goto (-25), 3) := by decide +kernel
theorem dX7_laysWays_30 : decode cX7_laysWays 30 = .ok (.return_, 1) := by decide +kernel
theorem dX7_moves_0 : decode cX7_moves 0 = .ok (.aload_n 0, 1) := by decide +kernel
theorem dX7_moves_1 : decode cX7_moves 1 = .ok (.iload_n 1, 1) := by decide +kernel
theorem dX7_moves_2 : decode cX7_moves 2 = .ok (.iconst 2, 1) := by decide +kernel
theorem dX7_moves_3 : decode cX7_moves 3 = .ok (.idiv, 1) := by decide +kernel
theorem dX7_moves_4 : decode cX7_moves 4 = .ok (.iconst 4, 1) := by decide +kernel
theorem dX7_moves_5 : decode cX7_moves 5 = .ok (.iload_n 1, 1) := by decide +kernel
theorem dX7_moves_6 : decode cX7_moves 6 = .ok (.iconst 2, 1) := by decide +kernel
theorem dX7_moves_7 : decode cX7_moves 7 = .ok (.irem, 1) := by decide +kernel
theorem dX7_moves_8 : decode cX7_moves 8 = .ok (.iadd, 1) := by decide +kernel
theorem dX7_moves_9 : decode cX7_moves 9 = .ok (.invokevirtual 78, 3) := by decide +kernel
theorem dX7_moves_12 : decode cX7_moves 12 = .ok (.ireturn, 1) := by decide +kernel
theorem dX7_isDone_0 : decode cX7_isDone 0 = .ok (.aload_n 0, 1) := by decide +kernel
theorem dX7_isDone_1 : decode cX7_isDone 1 = .ok (.getfield 31, 3) := by decide +kernel
theorem dX7_isDone_4 : decode cX7_isDone 4 = .ok (.iload_n 1, 1) := by decide +kernel
theorem dX7_isDone_5 : decode cX7_isDone 5 = .ok (.iaload, 1) := by decide +kernel
theorem dX7_isDone_6 : decode cX7_isDone 6 = .ok (.ifCond .eq 26, 3) := by decide +kernel
theorem dX7_isDone_9 : decode cX7_isDone 9 = .ok (.aload_n 0, 1) := by decide +kernel
theorem dX7_isDone_10 : decode cX7_isDone 10 = .ok (.iload_n 1, 1) := by decide +kernel
theorem dX7_isDone_11 : decode cX7_isDone 11 = .ok (.invokevirtual 88, 3) := by decide +kernel
theorem dX7_isDone_14 : decode cX7_isDone 14 = .ok (.aload_n 0, 1) := by decide +kernel
theorem dX7_isDone_15 : decode cX7_isDone 15 = .ok (.getfield 28, 3) := by decide +kernel
theorem dX7_isDone_18 : decode cX7_isDone 18 = .ok (.iload_n 1, 1) := by decide +kernel
theorem dX7_isDone_19 : decode cX7_isDone 19 = .ok (.iaload, 1) := by decide +kernel
theorem dX7_isDone_20 : decode cX7_isDone 20 = .ok (.aload_n 0, 1) := by decide +kernel
theorem dX7_isDone_21 : decode cX7_isDone 21 = .ok (.iload_n 1, 1) := by decide +kernel
theorem dX7_isDone_22 : decode cX7_isDone 22 = .ok (.iconst 2, 1) := by decide +kernel
theorem dX7_isDone_23 : decode cX7_isDone 23 = .ok (.idiv, 1) := by decide +kernel
theorem dX7_isDone_24 : decode cX7_isDone 24 = .ok (.iconst 1, 1) := by decide +kernel
theorem dX7_isDone_25 : decode cX7_isDone 25 = .ok (.invokevirtual 78, 3) := by decide +kernel
theorem dX7_isDone_28 : decode cX7_isDone 28 = .ok (.iadd, 1) := by decide +kernel
theorem dX7_isDone_29 : decode cX7_isDone 29 = .ok (.if_icmp .ne 7, 3) := by decide +kernel
theorem dX7_isDone_32 : decode cX7_isDone 32 = .ok (.iconst 1, 1) := by decide +kernel
theorem dX7_isDone_33 : decode cX7_isDone 33 = .ok (.goto 4, 3) := by decide +kernel
theorem dX7_isDone_36 : decode cX7_isDone 36 = .ok (.iconst 0, 1) := by decide +kernel
theorem dX7_isDone_37 : decode cX7_isDone 37 = .ok (.ireturn, 1) := by decide +kernel
theorem dX7_heldFrom_0 : decode cX7_heldFrom 0 = .ok (.aload_n 0, 1) := by decide +kernel
theorem dX7_heldFrom_1 : decode cX7_heldFrom 1 = .ok (.iload_n 1, 1) := by decide +kernel
theorem dX7_heldFrom_2 : decode cX7_heldFrom 2 = .ok (.invokevirtual 88, 3) := by decide +kernel
theorem dX7_heldFrom_5 : decode cX7_heldFrom 5 = .ok (.aload_n 0, 1) := by decide +kernel
theorem dX7_heldFrom_6 : decode cX7_heldFrom 6 = .ok (.iload_n 1, 1) := by decide +kernel
theorem dX7_heldFrom_7 : decode cX7_heldFrom 7 = .ok (.iconst 2, 1) := by decide +kernel
theorem dX7_heldFrom_8 : decode cX7_heldFrom 8 = .ok (.idiv, 1) := by decide +kernel
theorem dX7_heldFrom_9 : decode cX7_heldFrom 9 = .ok (.iconst 1, 1) := by decide +kernel
theorem dX7_heldFrom_10 : decode cX7_heldFrom 10 = .ok (.invokevirtual 78, 3) := by decide +kernel
theorem dX7_heldFrom_13 : decode cX7_heldFrom 13 = .ok (.isub, 1) := by decide +kernel
theorem dX7_heldFrom_14 : decode cX7_heldFrom 14 = .ok (.istore_n 2, 1) := by decide +kernel
theorem dX7_heldFrom_15 : decode cX7_heldFrom 15 = .ok (.iload_n 2, 1) := by decide +kernel
theorem dX7_heldFrom_16 : decode cX7_heldFrom 16 = .ok (.ifCond .ge 7, 3) := by decide +kernel
theorem dX7_heldFrom_19 : decode cX7_heldFrom 19 = .ok (.iconst 0, 1) := by decide +kernel
theorem dX7_heldFrom_20 : decode cX7_heldFrom 20 = .ok (.goto 4, 3) := by decide +kernel
theorem dX7_heldFrom_23 : decode cX7_heldFrom 23 = .ok (.iload_n 2, 1) := by decide +kernel
theorem dX7_heldFrom_24 : decode cX7_heldFrom 24 = .ok (.ireturn, 1) := by decide +kernel
theorem dX7_heldTo_0 : decode cX7_heldTo 0 = .ok (.aload_n 0, 1) := by decide +kernel
theorem dX7_heldTo_1 : decode cX7_heldTo 1 = .ok (.iload_n 1, 1) := by decide +kernel
theorem dX7_heldTo_2 : decode cX7_heldTo 2 = .ok (.invokevirtual 88, 3) := by decide +kernel
theorem dX7_heldTo_5 : decode cX7_heldTo 5 = .ok (.aload_n 0, 1) := by decide +kernel
theorem dX7_heldTo_6 : decode cX7_heldTo 6 = .ok (.getfield 28, 3) := by decide +kernel
theorem dX7_heldTo_9 : decode cX7_heldTo 9 = .ok (.iload_n 1, 1) := by decide +kernel
theorem dX7_heldTo_10 : decode cX7_heldTo 10 = .ok (.iaload, 1) := by decide +kernel
theorem dX7_heldTo_11 : decode cX7_heldTo 11 = .ok (.if_icmp .ge 11, 3) := by decide +kernel
theorem dX7_heldTo_14 : decode cX7_heldTo 14 = .ok (.aload_n 0, 1) := by decide +kernel
theorem dX7_heldTo_15 : decode cX7_heldTo 15 = .ok (.iload_n 1, 1) := by decide +kernel
theorem dX7_heldTo_16 : decode cX7_heldTo 16 = .ok (.invokevirtual 88, 3) := by decide +kernel
theorem dX7_heldTo_19 : decode cX7_heldTo 19 = .ok (.goto 9, 3) := by decide +kernel
theorem dX7_heldTo_22 : decode cX7_heldTo 22 = .ok (.aload_n 0, 1) := by decide +kernel
theorem dX7_heldTo_23 : decode cX7_heldTo 23 = .ok (.getfield 28, 3) := by decide +kernel
theorem dX7_heldTo_26 : decode cX7_heldTo 26 = .ok (.iload_n 1, 1) := by decide +kernel
theorem dX7_heldTo_27 : decode cX7_heldTo 27 = .ok (.iaload, 1) := by decide +kernel
theorem dX7_heldTo_28 : decode cX7_heldTo 28 = .ok (.ireturn, 1) := by decide +kernel
theorem dX7_isHeldBy_0 : decode cX7_isHeldBy 0 = .ok (.iconst 0, 1) := by decide +kernel
theorem dX7_isHeldBy_1 : decode cX7_isHeldBy 1 = .ok (.istore 4, 2) := by decide +kernel
theorem dX7_isHeldBy_3 : decode cX7_isHeldBy 3 = .ok (.aload_n 0, 1) := by decide +kernel
theorem dX7_isHeldBy_4 : decode cX7_isHeldBy 4 = .ok (.iload_n 1, 1) := by decide +kernel
theorem dX7_isHeldBy_5 : decode cX7_isHeldBy 5 = .ok (.invokevirtual 91, 3) := by decide +kernel
theorem dX7_isHeldBy_8 : decode cX7_isHeldBy 8 = .ok (.istore 5, 2) := by decide +kernel
theorem dX7_isHeldBy_10 : decode cX7_isHeldBy 10 = .ok (.iload 5, 2) := by decide +kernel
theorem dX7_isHeldBy_12 : decode cX7_isHeldBy 12 = .ok (.aload_n 0, 1) := by decide +kernel
theorem dX7_isHeldBy_13 : decode cX7_isHeldBy 13 = .ok (.iload_n 1, 1) := by decide +kernel
theorem dX7_isHeldBy_14 : decode cX7_isHeldBy 14 = .ok (.invokevirtual 94, 3) := by decide +kernel
theorem dX7_isHeldBy_17 : decode cX7_isHeldBy 17 = .ok (.if_icmp .ge 55, 3) := by decide +kernel
theorem dX7_isHeldBy_20 : decode cX7_isHeldBy 20 = .ok (.iload 4, 2) := by decide +kernel
theorem dX7_isHeldBy_22 : decode cX7_isHeldBy 22 = .ok (.ifCond .ne 37, 3) := by decide +kernel
theorem dX7_isHeldBy_25 : decode cX7_isHeldBy 25 = .ok (.aload_n 0, 1) := by decide +kernel
theorem dX7_isHeldBy_26 : decode cX7_isHeldBy 26 = .ok (.getfield 25, 3) := by decide +kernel
theorem dX7_isHeldBy_29 : decode cX7_isHeldBy 29 = .ok (.bipush 37, 2) := by decide +kernel
theorem dX7_isHeldBy_31 : decode cX7_isHeldBy 31 = .ok (.iload_n 1, 1) := by decide +kernel
theorem dX7_isHeldBy_32 : decode cX7_isHeldBy 32 = .ok (.imul, 1) := by decide +kernel
theorem dX7_isHeldBy_33 : decode cX7_isHeldBy 33 = .ok (.iload 5, 2) := by decide +kernel
theorem dX7_isHeldBy_35 : decode cX7_isHeldBy 35 = .ok (.iadd, 1) := by decide +kernel
theorem dX7_isHeldBy_36 : decode cX7_isHeldBy 36 = .ok (.iaload, 1) := by decide +kernel
theorem dX7_isHeldBy_37 : decode cX7_isHeldBy 37 = .ok (.iload_n 2, 1) := by decide +kernel
theorem dX7_isHeldBy_38 : decode cX7_isHeldBy 38 = .ok (.if_icmp .ne 25, 3) := by decide +kernel
theorem dX7_isHeldBy_41 : decode cX7_isHeldBy 41 = .ok (.aload_n 0, 1) := by decide +kernel
theorem dX7_isHeldBy_42 : decode cX7_isHeldBy 42 = .ok (.getfield 25, 3) := by decide +kernel
theorem dX7_isHeldBy_45 : decode cX7_isHeldBy 45 = .ok (.bipush 37, 2) := by decide +kernel
theorem dX7_isHeldBy_47 : decode cX7_isHeldBy 47 = .ok (.iload_n 1, 1) := by decide +kernel
theorem dX7_isHeldBy_48 : decode cX7_isHeldBy 48 = .ok (.imul, 1) := by decide +kernel
theorem dX7_isHeldBy_49 : decode cX7_isHeldBy 49 = .ok (.iload 5, 2) := by decide +kernel
theorem dX7_isHeldBy_51 : decode cX7_isHeldBy 51 = .ok (.iadd, 1) := by decide +kernel
theorem dX7_isHeldBy_52 : decode cX7_isHeldBy 52 = .ok (.iconst 1, 1) := by decide +kernel
theorem dX7_isHeldBy_53 : decode cX7_isHeldBy 53 = .ok (.iadd, 1) := by decide +kernel
theorem dX7_isHeldBy_54 : decode cX7_isHeldBy 54 = .ok (.iaload, 1) := by decide +kernel
theorem dX7_isHeldBy_55 : decode cX7_isHeldBy 55 = .ok (.iload_n 3, 1) := by decide +kernel
theorem dX7_isHeldBy_56 : decode cX7_isHeldBy 56 = .ok (.if_icmp .ne 7, 3) := by decide +kernel
theorem dX7_isHeldBy_59 : decode cX7_isHeldBy 59 = .ok (.iconst 1, 1) := by decide +kernel
theorem dX7_isHeldBy_60 : decode cX7_isHeldBy 60 = .ok (.goto 4, 3) := by decide +kernel
theorem dX7_isHeldBy_63 : decode cX7_isHeldBy 63 = .ok (.iconst 0, 1) := by decide +kernel
theorem dX7_isHeldBy_64 : decode cX7_isHeldBy 64 = .ok (.istore 4, 2) := by decide +kernel
theorem dX7_isHeldBy_66 : decode cX7_isHeldBy 66 = .ok (.iinc 5 1, 3) := by decide +kernel
theorem dX7_isHeldBy_69 : decode cX7_isHeldBy 69 = .ok (.goto (-59), 3) := by decide +kernel
theorem dX7_isHeldBy_72 : decode cX7_isHeldBy 72 = .ok (.iload 4, 2) := by decide +kernel
theorem dX7_isHeldBy_74 : decode cX7_isHeldBy 74 = .ok (.ireturn, 1) := by decide +kernel
theorem dX7_holder_0 : decode cX7_holder 0 = .ok (.iconst (-1), 1) := by decide +kernel
theorem dX7_holder_1 : decode cX7_holder 1 = .ok (.istore_n 3, 1) := by decide +kernel
theorem dX7_holder_2 : decode cX7_holder 2 = .ok (.iconst 0, 1) := by decide +kernel
theorem dX7_holder_3 : decode cX7_holder 3 = .ok (.istore 4, 2) := by decide +kernel
theorem dX7_holder_5 : decode cX7_holder 5 = .ok (.iload 4, 2) := by decide +kernel
theorem dX7_holder_7 : decode cX7_holder 7 = .ok (.iconst 2, 1) := by decide +kernel
theorem dX7_holder_8 : decode cX7_holder 8 = .ok (.aload_n 0, 1) := by decide +kernel
theorem dX7_holder_9 : decode cX7_holder 9 = .ok (.getfield 7, 3) := by decide +kernel
theorem dX7_holder_12 : decode cX7_holder 12 = .ok (.iconst 3, 1) := by decide +kernel
theorem dX7_holder_13 : decode cX7_holder 13 = .ok (.iaload, 1) := by decide +kernel
theorem dX7_holder_14 : decode cX7_holder 14 = .ok (.imul, 1) := by decide +kernel
theorem dX7_holder_15 : decode cX7_holder 15 = .ok (.if_icmp .ge 32, 3) := by decide +kernel
theorem dX7_holder_18 : decode cX7_holder 18 = .ok (.iload_n 3, 1) := by decide +kernel
theorem dX7_holder_19 : decode cX7_holder 19 = .ok (.iconst (-1), 1) := by decide +kernel
theorem dX7_holder_20 : decode cX7_holder 20 = .ok (.if_icmp .ne 19, 3) := by decide +kernel
theorem dX7_holder_23 : decode cX7_holder 23 = .ok (.aload_n 0, 1) := by decide +kernel
theorem dX7_holder_24 : decode cX7_holder 24 = .ok (.iload 4, 2) := by decide +kernel
theorem dX7_holder_26 : decode cX7_holder 26 = .ok (.iload_n 1, 1) := by decide +kernel
theorem dX7_holder_27 : decode cX7_holder 27 = .ok (.iload_n 2, 1) := by decide +kernel
theorem dX7_holder_28 : decode cX7_holder 28 = .ok (.invokevirtual 97, 3) := by decide +kernel
theorem dX7_holder_31 : decode cX7_holder 31 = .ok (.ifCond .eq 8, 3) := by decide +kernel
theorem dX7_holder_34 : decode cX7_holder 34 = .ok (.iload 4, 2) := by decide +kernel
theorem dX7_holder_36 : decode cX7_holder 36 = .ok (.goto 4, 3) := by decide +kernel
theorem dX7_holder_39 : decode cX7_holder 39 = .ok (.iload_n 3, 1) := by decide +kernel
theorem dX7_holder_40 : decode cX7_holder 40 = .ok (.istore_n 3, 1) := by decide +kernel
theorem dX7_holder_41 : decode cX7_holder 41 = .ok (.iinc 4 1, 3) := by decide +kernel
theorem dX7_holder_44 : decode cX7_holder 44 = .ok (.goto (-39), 3) := by decide +kernel
theorem dX7_holder_47 : decode cX7_holder 47 = .ok (.iload_n 3, 1) := by decide +kernel
theorem dX7_holder_48 : decode cX7_holder 48 = .ok (.ireturn, 1) := by decide +kernel
