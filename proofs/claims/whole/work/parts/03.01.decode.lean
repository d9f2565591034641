theorem dX4_isTaken_0 : decode cX4_isTaken 0 = .ok (.iload_n 1, 1) := by decide +kernel
theorem dX4_isTaken_1 : decode cX4_isTaken 1 = .ok (.ifCond .lt 23, 3) := by decide +kernel
theorem dX4_isTaken_4 : decode cX4_isTaken 4 = .ok (.iload_n 1, 1) := by decide +kernel
theorem dX4_isTaken_5 : decode cX4_isTaken 5 = .ok (.sipush 144, 3) := by decide +kernel
theorem dX4_isTaken_8 : decode cX4_isTaken 8 = .ok (.if_icmp .ge 16, 3) := by decide +kernel
theorem dX4_isTaken_11 : decode cX4_isTaken 11 = .ok (.aload_n 0, 1) := by decide +kernel
theorem dX4_isTaken_12 : decode cX4_isTaken 12 = .ok (.getfield 9, 3) := by decide +kernel
theorem dX4_isTaken_15 : decode cX4_isTaken 15 = .ok (.iload_n 1, 1) := by decide +kernel
theorem dX4_isTaken_16 : decode cX4_isTaken 16 = .ok (.baload, 1) := by decide +kernel
theorem dX4_isTaken_17 : decode cX4_isTaken 17 = .ok (.ifCond .eq 7, 3) := by decide +kernel
theorem dX4_isTaken_20 : decode cX4_isTaken 20 = .ok (.iconst 1, 1) := by decide +kernel
theorem dX4_isTaken_21 : decode cX4_isTaken 21 = .ok (.goto 4, 3) := by decide +kernel
theorem dX4_isTaken_24 : decode cX4_isTaken 24 = .ok (.iconst 0, 1) := by decide +kernel
theorem dX4_isTaken_25 : decode cX4_isTaken 25 = .ok (.ireturn, 1) := by decide +kernel
theorem dX4_mark_0 : decode cX4_mark 0 = .ok (.iload_n 1, 1) := by decide +kernel
theorem dX4_mark_1 : decode cX4_mark 1 = .ok (.ifCond .lt 17, 3) := by decide +kernel
theorem dX4_mark_4 : decode cX4_mark 4 = .ok (.iload_n 1, 1) := by decide +kernel
theorem dX4_mark_5 : decode cX4_mark 5 = .ok (.sipush 144, 3) := by decide +kernel
theorem dX4_mark_8 : decode cX4_mark 8 = .ok (.if_icmp .ge 10, 3) := by decide +kernel
theorem dX4_mark_11 : decode cX4_mark 11 = .ok (.aload_n 0, 1) := by decide +kernel
theorem dX4_mark_12 : decode cX4_mark 12 = .ok (.getfield 9, 3) := by decide +kernel
theorem dX4_mark_15 : decode cX4_mark 15 = .ok (.iload_n 1, 1) := by decide +kernel
theorem dX4_mark_16 : decode cX4_mark 16 = .ok (.iload_n 2, 1) := by decide +kernel
theorem dX4_mark_17 : decode cX4_mark 17 = .ok (.bastore, 1) := by decide +kernel
theorem dX4_mark_18 : decode cX4_mark 18 = .ok (.return_, 1) := by decide +kernel
theorem dX5_init_0 : decode cX5_init 0 = .ok (.aload_n 0, 1) := by decide +kernel
theorem dX5_init_1 : decode cX5_init 1 = .ok (.invokespecial 3, 3) := by decide +kernel
theorem dX5_init_4 : decode cX5_init 4 = .ok (.aload_n 0, 1) := by decide +kernel
theorem dX5_init_5 : decode cX5_init 5 = .ok (.bipush 10, 2) := by decide +kernel
theorem dX5_init_7 : decode cX5_init 7 = .ok (.newarray .int, 2) := by decide +kernel
theorem dX5_init_9 : decode cX5_init 9 = .ok (.putfield 9, 3) := by decide +kernel
theorem dX5_init_12 : decode cX5_init 12 = .ok (.aload_n 0, 1) := by decide +kernel
theorem dX5_init_13 : decode cX5_init 13 = .ok (.bipush 10, 2) := by decide +kernel
theorem dX5_init_15 : decode cX5_init 15 = .ok (.bipush 36, 2) := by decide +kernel
theorem dX5_init_17 : decode cX5_init 17 = .ok (.multianewarray 15 2, 4) := by decide +kernel
theorem dX5_init_21 : decode cX5_init 21 = .ok (.putfield 17, 3) := by decide +kernel
theorem dX5_init_24 : decode cX5_init 24 = .ok (.aload_n 0, 1) := by decide +kernel
theorem dX5_init_25 : decode cX5_init 25 = .ok (.bipush 10, 2) := by decide +kernel
theorem dX5_init_27 : decode cX5_init 27 = .ok (.bipush 36, 2) := by decide +kernel
theorem dX5_init_29 : decode cX5_init 29 = .ok (.multianewarray 15 2, 4) := by decide +kernel
theorem dX5_init_33 : decode cX5_init 33 = .ok (.putfield 20, 3) := by decide +kernel
theorem dX5_init_36 : decode cX5_init 36 = .ok (.return_, 1) := by decide +kernel
theorem dX5_lay_0 : decode cX5_lay 0 = .ok (.aload_n 2, 1) := by decide +kernel
theorem dX5_lay_1 : decode cX5_lay 1 = .ok (.iload_n 3, 1) := by decide +kernel
theorem dX5_lay_2 : decode cX5_lay 2 = .ok (.invokevirtual 23, 3) := by decide +kernel
theorem dX5_lay_5 : decode cX5_lay 5 = .ok (.lstore 4, 2) := by decide +kernel
theorem dX5_lay_7 : decode cX5_lay 7 = .ok (.aload_n 2, 1) := by decide +kernel
theorem dX5_lay_8 : decode cX5_lay 8 = .ok (.iload_n 3, 1) := by decide +kernel
theorem dX5_lay_9 : decode cX5_lay 9 = .ok (.invokevirtual 29, 3) := by decide +kernel
theorem dX5_lay_12 : decode cX5_lay 12 = .ok (.ifCond .eq 7, 3) := by decide +kernel
theorem dX5_lay_15 : decode cX5_lay 15 = .ok (.iconst 1, 1) := by decide +kernel
theorem dX5_lay_16 : decode cX5_lay 16 = .ok (.goto 4, 3) := by decide +kernel
theorem dX5_lay_19 : decode cX5_lay 19 = .ok (.iconst (-1), 1) := by decide +kernel
theorem dX5_lay_20 : decode cX5_lay 20 = .ok (.istore 6, 2) := by decide +kernel
theorem dX5_lay_22 : decode cX5_lay 22 = .ok (.aload_n 0, 1) := by decide +kernel
theorem dX5_lay_23 : decode cX5_lay 23 = .ok (.getfield 9, 3) := by decide +kernel
theorem dX5_lay_26 : decode cX5_lay 26 = .ok (.iload_n 3, 1) := by decide +kernel
theorem dX5_lay_27 : decode cX5_lay 27 = .ok (.iconst 0, 1) := by decide +kernel
theorem dX5_lay_28 : decode cX5_lay 28 = .ok (.iastore, 1) := by decide +kernel
theorem dX5_lay_29 : decode cX5_lay 29 = .ok (.aload_n 0, 1) := by decide +kernel
theorem dX5_lay_30 : decode cX5_lay 30 = .ok (.getfield 17, 3) := by decide +kernel
theorem dX5_lay_33 : decode cX5_lay 33 = .ok (.iload_n 3, 1) := by decide +kernel
theorem dX5_lay_34 : decode cX5_lay 34 = .ok (.aaload, 1) := by decide +kernel
theorem dX5_lay_35 : decode cX5_lay 35 = .ok (.iconst 0, 1) := by decide +kernel
theorem dX5_lay_36 : decode cX5_lay 36 = .ok (.aload_n 2, 1) := by decide +kernel
theorem dX5_lay_37 : decode cX5_lay 37 = .ok (.iload_n 3, 1) := by decide +kernel
theorem dX5_lay_38 : decode cX5_lay 38 = .ok (.invokevirtual 33, 3) := by decide +kernel
theorem dX5_lay_41 : decode cX5_lay 41 = .ok (.iastore, 1) := by decide +kernel
theorem dX5_lay_42 : decode cX5_lay 42 = .ok (.aload_n 2, 1) := by decide +kernel
theorem dX5_lay_43 : decode cX5_lay 43 = .ok (.iload_n 3, 1) := by decide +kernel
theorem dX5_lay_44 : decode cX5_lay 44 = .ok (.invokevirtual 33, 3) := by decide +kernel
theorem dX5_lay_47 : decode cX5_lay 47 = .ok (.iload 6, 2) := by decide +kernel
theorem dX5_lay_49 : decode cX5_lay 49 = .ok (.iadd, 1) := by decide +kernel
theorem dX5_lay_50 : decode cX5_lay 50 = .ok (.istore 7, 2) := by decide +kernel
theorem dX5_lay_52 : decode cX5_lay 52 = .ok (.iload 7, 2) := by decide +kernel
theorem dX5_lay_54 : decode cX5_lay 54 = .ok (.ifCond .lt 40, 3) := by decide +kernel
theorem dX5_lay_57 : decode cX5_lay 57 = .ok (.iload 7, 2) := by decide +kernel
theorem dX5_lay_59 : decode cX5_lay 59 = .ok (.bipush 36, 2) := by decide +kernel
theorem dX5_lay_61 : decode cX5_lay 61 = .ok (.if_icmp .ge 33, 3) := by decide +kernel
theorem dX5_lay_64 : decode cX5_lay 64 = .ok (.lload 4, 2) := by decide +kernel
theorem dX5_lay_66 : decode cX5_lay 66 = .ok (.iload 7, 2) := by decide +kernel
theorem dX5_lay_68 : decode cX5_lay 68 = .ok (.lshr, 1) := by decide +kernel
theorem dX5_lay_69 : decode cX5_lay 69 = .ok (.lconst 1, 1) := by decide +kernel
theorem dX5_lay_70 : decode cX5_lay 70 = .ok (.land, 1) := by decide +kernel
theorem dX5_lay_71 : decode cX5_lay 71 = .ok (.lconst 0, 1) := by decide +kernel
theorem dX5_lay_72 : decode cX5_lay 72 = .ok (.lcmp, 1) := by decide +kernel
theorem dX5_lay_73 : decode cX5_lay 73 = .ok (.ifCond .eq 11, 3) := by decide +kernel
theorem dX5_lay_76 : decode cX5_lay 76 = .ok (.aload_n 0, 1) := by decide +kernel
theorem dX5_lay_77 : decode cX5_lay 77 = .ok (.aload_n 1, 1) := by decide +kernel
theorem dX5_lay_78 : decode cX5_lay 78 = .ok (.iload_n 3, 1) := by decide +kernel
theorem dX5_lay_79 : decode cX5_lay 79 = .ok (.iload 7, 2) := by decide +kernel
theorem dX5_lay_81 : decode cX5_lay 81 = .ok (.invokevirtual 37, 3) := by decide +kernel
theorem dX5_lay_84 : decode cX5_lay 84 = .ok (.iload 7, 2) := by decide +kernel
theorem dX5_lay_86 : decode cX5_lay 86 = .ok (.iload 6, 2) := by decide +kernel
theorem dX5_lay_88 : decode cX5_lay 88 = .ok (.iadd, 1) := by decide +kernel
theorem dX5_lay_89 : decode cX5_lay 89 = .ok (.istore 7, 2) := by decide +kernel
theorem dX5_lay_91 : decode cX5_lay 91 = .ok (.goto (-39), 3) := by decide +kernel
theorem dX5_lay_94 : decode cX5_lay 94 = .ok (.return_, 1) := by decide +kernel
theorem dX5_layTo_0 : decode cX5_layTo 0 = .ok (.aload_n 0, 1) := by decide +kernel
theorem dX5_layTo_1 : decode cX5_layTo 1 = .ok (.getfield 9, 3) := by decide +kernel
theorem dX5_layTo_4 : decode cX5_layTo 4 = .ok (.iload_n 2, 1) := by decide +kernel
theorem dX5_layTo_5 : decode cX5_layTo 5 = .ok (.iaload, 1) := by decide +kernel
theorem dX5_layTo_6 : decode cX5_layTo 6 = .ok (.istore 4, 2) := by decide +kernel
theorem dX5_layTo_8 : decode cX5_layTo 8 = .ok (.iload 4, 2) := by decide +kernel
theorem dX5_layTo_10 : decode cX5_layTo 10 = .ok (.iconst 1, 1) := by decide +kernel
theorem dX5_layTo_11 : decode cX5_layTo 11 = .ok (.iadd, 1) := by decide +kernel
theorem dX5_layTo_12 : decode cX5_layTo 12 = .ok (.bipush 36, 2) := by decide +kernel
theorem dX5_layTo_14 : decode cX5_layTo 14 = .ok (.if_icmp .ge 75, 3) := by decide +kernel
theorem dX5_layTo_17 : decode cX5_layTo 17 = .ok (.aload_n 0, 1) := by decide +kernel
theorem dX5_layTo_18 : decode cX5_layTo 18 = .ok (.getfield 17, 3) := by decide +kernel
theorem dX5_layTo_21 : decode cX5_layTo 21 = .ok (.iload_n 2, 1) := by decide +kernel
theorem dX5_layTo_22 : decode cX5_layTo 22 = .ok (.aaload, 1) := by decide +kernel
theorem dX5_layTo_23 : decode cX5_layTo 23 = .ok (.iload 4, 2) := by decide +kernel
theorem dX5_layTo_25 : decode cX5_layTo 25 = .ok (.iaload, 1) := by decide +kernel
theorem dX5_layTo_26 : decode cX5_layTo 26 = .ok (.iload_n 3, 1) := by decide +kernel
theorem dX5_layTo_27 : decode cX5_layTo 27 = .ok (.if_icmp .eq 62, 3) := by decide +kernel
theorem dX5_layTo_30 : decode cX5_layTo 30 = .ok (.aload_n 1, 1) := by decide +kernel
theorem dX5_layTo_31 : decode cX5_layTo 31 = .ok (.aload_n 0, 1) := by decide +kernel
theorem dX5_layTo_32 : decode cX5_layTo 32 = .ok (.getfield 17, 3) := by decide +kernel
theorem dX5_layTo_35 : decode cX5_layTo 35 = .ok (.iload_n 2, 1) := by decide +kernel
theorem dX5_layTo_36 : decode cX5_layTo 36 = .ok (.aaload, 1) := by decide +kernel
theorem dX5_layTo_37 : decode cX5_layTo 37 = .ok (.iload 4, 2) := by decide +kernel
theorem dX5_layTo_39 : decode cX5_layTo 39 = .ok (.iaload, 1) := by decide +kernel
theorem dX5_layTo_40 : decode cX5_layTo 40 = .ok (.iload_n 3, 1) := by decide +kernel
theorem dX5_layTo_41 : decode cX5_layTo 41 = .ok (.invokevirtual 41, 3) := by decide +kernel
theorem dX5_layTo_44 : decode cX5_layTo 44 = .ok (.istore 5, 2) := by decide +kernel
theorem dX5_layTo_46 : decode cX5_layTo 46 = .ok (.iload 5, 2) := by decide +kernel
theorem dX5_layTo_48 : decode cX5_layTo 48 = .ok (.iconst (-1), 1) := by decide +kernel
theorem dX5_layTo_49 : decode cX5_layTo 49 = .ok (.if_icmp .ne 6, 3) := by decide +kernel
theorem dX5_layTo_52 : decode cX5_layTo 52 = .ok (.goto 37, 3) := by decide +kernel
theorem dX5_layTo_55 : decode cX5_layTo 55 = .ok (.aload_n 0, 1) := by decide +kernel
theorem dX5_layTo_56 : decode cX5_layTo 56 = .ok (.getfield 20, 3) := by decide +kernel
theorem dX5_layTo_59 : decode cX5_layTo 59 = .ok (.iload_n 2, 1) := by decide +kernel
theorem dX5_layTo_60 : decode cX5_layTo 60 = .ok (.aaload, 1) := by decide +kernel
theorem dX5_layTo_61 : decode cX5_layTo 61 = .ok (.iload 4, 2) := by decide +kernel
theorem dX5_layTo_63 : decode cX5_layTo 63 = .ok (.iload 5, 2) := by decide +kernel
theorem dX5_layTo_65 : decode cX5_layTo 65 = .ok (.iastore, 1) := by decide +kernel
theorem dX5_layTo_66 : decode cX5_layTo 66 = .ok (.aload_n 0, 1) := by decide +kernel
theorem dX5_layTo_67 : decode cX5_layTo 67 = .ok (.getfield 17, 3) := by decide +kernel
theorem dX5_layTo_70 : decode cX5_layTo 70 = .ok (.iload_n 2, 1) := by decide +kernel
theorem dX5_layTo_71 : decode cX5_layTo 71 = .ok (.aaload, 1) := by decide +kernel
theorem dX5_layTo_72 : decode cX5_layTo 72 = .ok (.iload 4, 2) := by decide +kernel
theorem dX5_layTo_74 : decode cX5_layTo 74 = .ok (.iconst 1, 1) := by decide +kernel
theorem dX5_layTo_75 : decode cX5_layTo 75 = .ok (.iadd, 1) := by decide +kernel
theorem dX5_layTo_76 : decode cX5_layTo 76 = .ok (.aload_n 1, 1) := by decide +kernel
theorem dX5_layTo_77 : decode cX5_layTo 77 = .ok (.iload 5, 2) := by decide +kernel
theorem dX5_layTo_79 : decode cX5_layTo 79 = .ok (.invokevirtual 47, 3) := by decide +kernel
theorem dX5_layTo_82 : decode cX5_layTo 82 = .ok (.iastore, 1) := by decide +kernel
theorem dX5_layTo_83 : decode cX5_layTo 83 = .ok (.iinc 4 1, 3) := by decide +kernel
theorem dX5_layTo_86 : decode cX5_layTo 86 = .ok (.goto (-78), 3) := by decide +kernel
theorem dX5_layTo_89 : decode cX5_layTo 89 = .ok (.aload_n 0, 1) := by decide +kernel
theorem dX5_layTo_90 : decode cX5_layTo 90 = .ok (.getfield 9, 3) := by decide +kernel
theorem dX5_layTo_93 : decode cX5_layTo 93 = .ok (.iload_n 2, 1) := by decide +kernel
theorem dX5_layTo_94 : decode cX5_layTo 94 = .ok (.iload 4, 2) := by decide +kernel
theorem dX5_layTo_96 : decode cX5_layTo 96 = .ok (.iastore, 1) := by decide +kernel
theorem dX5_layTo_97 : decode cX5_layTo 97 = .ok (.return_, 1) := by decide +kernel
theorem dX5_channelsOf_0 : decode cX5_channelsOf 0 = .ok (.aload_n 0, 1) := by decide +kernel
theorem dX5_channelsOf_1 : decode cX5_channelsOf 1 = .ok (.getfield 9, 3) := by decide +kernel
theorem dX5_channelsOf_4 : decode cX5_channelsOf 4 = .ok (.iload_n 1, 1) := by decide +kernel
theorem dX5_channelsOf_5 : decode cX5_channelsOf 5 = .ok (.iaload, 1) := by decide +kernel
theorem dX5_channelsOf_6 : decode cX5_channelsOf 6 = .ok (.ireturn, 1) := by decide +kernel
theorem dX5_placeOf_0 : decode cX5_placeOf 0 = .ok (.aload_n 0, 1) := by decide +kernel
theorem dX5_placeOf_1 : decode cX5_placeOf 1 = .ok (.getfield 17, 3) := by decide +kernel
theorem dX5_placeOf_4 : decode cX5_placeOf 4 = .ok (.iload_n 1, 1) := by decide +kernel
theorem dX5_placeOf_5 : decode cX5_placeOf 5 = .ok (.aaload, 1) := by decide +kernel
theorem dX5_placeOf_6 : decode cX5_placeOf 6 = .ok (.iload_n 2, 1) := by decide +kernel
theorem dX5_placeOf_7 : decode cX5_placeOf 7 = .ok (.iaload, 1) := by decide +kernel
theorem dX5_placeOf_8 : decode cX5_placeOf 8 = .ok (.ireturn, 1) := by decide +kernel
theorem dX5_channelOf_0 : decode cX5_channelOf 0 = .ok (.aload_n 0, 1) := by decide +kernel
theorem dX5_channelOf_1 : decode cX5_channelOf 1 = .ok (.getfield 20, 3) := by decide +kernel
theorem dX5_channelOf_4 : decode cX5_channelOf 4 = .ok (.iload_n 1, 1) := by decide +kernel
theorem dX5_channelOf_5 : decode cX5_channelOf 5 = .ok (.aaload, 1) := by decide +kernel
theorem dX5_channelOf_6 : decode cX5_channelOf 6 = .ok (.iload_n 2, 1) := by decide +kernel
theorem dX5_channelOf_7 : decode cX5_channelOf 7 = .ok (.iaload, 1) := by decide +kernel
theorem dX5_channelOf_8 : decode cX5_channelOf 8 = .ok (.ireturn, 1) := by decide +kernel
theorem dX5_goalOf_0 : decode cX5_goalOf 0 = .ok (.aload_n 1, 1) := by decide +kernel
theorem dX5_goalOf_1 : decode cX5_goalOf 1 = .ok (.iload_n 2, 1) := by decide +kernel
theorem dX5_goalOf_2 : decode cX5_goalOf 2 = .ok (.invokevirtual 23, 3) := by decide +kernel
theorem dX5_goalOf_5 : decode cX5_goalOf 5 = .ok (.lstore 4, 2) := by decide +kernel
theorem dX5_goalOf_7 : decode cX5_goalOf 7 = .ok (.iconst 0, 1) := by decide +kernel
theorem dX5_goalOf_8 : decode cX5_goalOf 8 = .ok (.istore 6, 2) := by decide +kernel
theorem dX5_goalOf_10 : decode cX5_goalOf 10 = .ok (.iconst 1, 1) := by decide +kernel
theorem dX5_goalOf_11 : decode cX5_goalOf 11 = .ok (.istore 7, 2) := by decide +kernel
theorem dX5_goalOf_13 : decode cX5_goalOf 13 = .ok (.iload 7, 2) := by decide +kernel
theorem dX5_goalOf_15 : decode cX5_goalOf 15 = .ok (.aload_n 0, 1) := by decide +kernel
theorem dX5_goalOf_16 : decode cX5_goalOf 16 = .ok (.getfield 9, 3) := by decide +kernel
theorem dX5_goalOf_19 : decode cX5_goalOf 19 = .ok (.iload_n 2, 1) := by decide +kernel
theorem dX5_goalOf_20 : decode cX5_goalOf 20 = .ok (.iaload, 1) := by decide +kernel
theorem dX5_goalOf_21 : decode cX5_goalOf 21 = .ok (.if_icmp .gt 44, 3) := by decide +kernel
theorem dX5_goalOf_24 : decode cX5_goalOf 24 = .ok (.aload_n 0, 1) := by decide +kernel
theorem dX5_goalOf_25 : decode cX5_goalOf 25 = .ok (.getfield 17, 3) := by decide +kernel
theorem dX5_goalOf_28 : decode cX5_goalOf 28 = .ok (.iload_n 2, 1) := by decide +kernel
theorem dX5_goalOf_29 : decode cX5_goalOf 29 = .ok (.aaload, 1) := by decide +kernel
theorem dX5_goalOf_30 : decode cX5_goalOf 30 = .ok (.iload 7, 2) := by decide +kernel
theorem dX5_goalOf_32 : decode cX5_goalOf 32 = .ok (.iaload, 1) := by decide +kernel
theorem dX5_goalOf_33 : decode cX5_goalOf 33 = .ok (.istore 8, 2) := by decide +kernel
theorem dX5_goalOf_35 : decode cX5_goalOf 35 = .ok (.lload 4, 2) := by decide +kernel
theorem dX5_goalOf_37 : decode cX5_goalOf 37 = .ok (.iload 8, 2) := by decide +kernel
theorem dX5_goalOf_39 : decode cX5_goalOf 39 = .ok (.lshr, 1) := by decide +kernel
theorem dX5_goalOf_40 : decode cX5_goalOf 40 = .ok (.lconst 1, 1) := by decide +kernel
theorem dX5_goalOf_41 : decode cX5_goalOf 41 = .ok (.land, 1) := by decide +kernel
theorem dX5_goalOf_42 : decode cX5_goalOf 42 = .ok (.lconst 0, 1) := by decide +kernel
theorem dX5_goalOf_43 : decode cX5_goalOf 43 = .ok (.lcmp, 1) := by decide +kernel
theorem dX5_goalOf_44 : decode cX5_goalOf 44 = .ok (.ifCond .eq 15, 3) := by decide +kernel
theorem dX5_goalOf_47 : decode cX5_goalOf 47 = .ok (.iload 6, 2) := by decide +kernel
theorem dX5_goalOf_49 : decode cX5_goalOf 49 = .ok (.iload_n 3, 1) := by decide +kernel
theorem dX5_goalOf_50 : decode cX5_goalOf 50 = .ok (.if_icmp .ne 6, 3) := by decide +kernel
theorem dX5_goalOf_53 : decode cX5_goalOf 53 = .ok (.iload 8, 2) := by decide +kernel
theorem dX5_goalOf_55 : decode cX5_goalOf 55 = .ok (.ireturn, 1) := by decide +kernel
theorem dX5_goalOf_56 : decode cX5_goalOf 56 = .ok (.iinc 6 1, 3) := by decide +kernel
theorem dX5_goalOf_59 : decode cX5_goalOf 59 = .ok (.iinc 7 1, 3) := by decide +kernel
theorem dX5_goalOf_62 : decode cX5_goalOf 62 = .ok (.goto (-49), 3) := by decide +kernel
theorem dX5_goalOf_65 : decode cX5_goalOf 65 = .ok (.iconst (-1), 1) := by decide +kernel
theorem dX5_goalOf_66 : decode cX5_goalOf 66 = .ok (.ireturn, 1) := by decide +kernel
theorem dX5_headOf_0 : decode cX5_headOf 0 = .ok (.aload_n 1, 1) := by decide +kernel
theorem dX5_headOf_1 : decode cX5_headOf 1 = .ok (.getfield 50, 3) := by decide +kernel
theorem dX5_headOf_4 : decode cX5_headOf 4 = .ok (.iload_n 2, 1) := by decide +kernel
theorem dX5_headOf_5 : decode cX5_headOf 5 = .ok (.iaload, 1) := by decide +kernel
theorem dX5_headOf_6 : decode cX5_headOf 6 = .ok (.aload_n 0, 1) := by decide +kernel
theorem dX5_headOf_7 : decode cX5_headOf 7 = .ok (.getfield 9, 3) := by decide +kernel
theorem dX5_headOf_10 : decode cX5_headOf 10 = .ok (.iload_n 2, 1) := by decide +kernel
theorem dX5_headOf_11 : decode cX5_headOf 11 = .ok (.iaload, 1) := by decide +kernel
theorem dX5_headOf_12 : decode cX5_headOf 12 = .ok (.invokestatic 53, 3) := by decide +kernel
theorem dX5_headOf_15 : decode cX5_headOf 15 = .ok (.ireturn, 1) := by decide +kernel
theorem dX5_tailOf_0 : decode cX5_tailOf 0 = .ok (.iconst 0, 1) := by decide +kernel
theorem dX5_tailOf_1 : decode cX5_tailOf 1 = .ok (.aload_n 1, 1) := by decide +kernel
theorem dX5_tailOf_2 : decode cX5_tailOf 2 = .ok (.getfield 50, 3) := by decide +kernel
theorem dX5_tailOf_5 : decode cX5_tailOf 5 = .ok (.iload_n 2, 1) := by decide +kernel
theorem dX5_tailOf_6 : decode cX5_tailOf 6 = .ok (.iaload, 1) := by decide +kernel
theorem dX5_tailOf_7 : decode cX5_tailOf 7 = .ok (.aload_n 1, 1) := by decide +kernel
theorem dX5_tailOf_8 : decode cX5_tailOf 8 = .ok (.iload_n 2, 1) := by decide +kernel
theorem dX5_tailOf_9 : decode cX5_tailOf 9 = .ok (.invokevirtual 58, 3) := by decide +kernel
theorem dX5_tailOf_12 : decode cX5_tailOf 12 = .ok (.isub, 1) := by decide +kernel
theorem dX5_tailOf_13 : decode cX5_tailOf 13 = .ok (.invokestatic 61, 3) := by decide +kernel
theorem dX5_tailOf_16 : decode cX5_tailOf 16 = .ok (.ireturn, 1) := by decide +kernel
theorem dX5_arrived_0 : decode cX5_arrived 0 = .ok (.aload_n 1, 1) := by decide +kernel
theorem dX5_arrived_1 : decode cX5_arrived 1 = .ok (.iload_n 2, 1) := by decide +kernel
theorem dX5_arrived_2 : decode cX5_arrived 2 = .ok (.invokevirtual 23, 3) := by decide +kernel
theorem dX5_arrived_5 : decode cX5_arrived 5 = .ok (.lstore_n 3, 1) := by decide +kernel
theorem dX5_arrived_6 : decode cX5_arrived 6 = .ok (.iconst 0, 1) := by decide +kernel
theorem dX5_arrived_7 : decode cX5_arrived 7 = .ok (.istore 5, 2) := by decide +kernel
theorem dX5_arrived_9 : decode cX5_arrived 9 = .ok (.iconst 1, 1) := by decide +kernel
theorem dX5_arrived_10 : decode cX5_arrived 10 = .ok (.istore 6, 2) := by decide +kernel
theorem dX5_arrived_12 : decode cX5_arrived 12 = .ok (.iload 6, 2) := by decide +kernel
theorem dX5_arrived_14 : decode cX5_arrived 14 = .ok (.aload_n 0, 1) := by decide +kernel
theorem dX5_arrived_15 : decode cX5_arrived 15 = .ok (.aload_n 1, 1) := by decide +kernel
theorem dX5_arrived_16 : decode cX5_arrived 16 = .ok (.iload_n 2, 1) := by decide +kernel
theorem dX5_arrived_17 : decode cX5_arrived 17 = .ok (.invokevirtual 64, 3) := by decide +kernel
theorem dX5_arrived_20 : decode cX5_arrived 20 = .ok (.if_icmp .gt 30, 3) := by decide +kernel
theorem dX5_arrived_23 : decode cX5_arrived 23 = .ok (.lload_n 3, 1) := by decide +kernel
theorem dX5_arrived_24 : decode cX5_arrived 24 = .ok (.aload_n 0, 1) := by decide +kernel
theorem dX5_arrived_25 : decode cX5_arrived 25 = .ok (.getfield 17, 3) := by decide +kernel
theorem dX5_arrived_28 : decode cX5_arrived 28 = .ok (.iload_n 2, 1) := by decide +kernel
theorem dX5_arrived_29 : decode cX5_arrived 29 = .ok (.aaload, 1) := by decide +kernel
theorem dX5_arrived_30 : decode cX5_arrived 30 = .ok (.iload 6, 2) := by decide +kernel
theorem dX5_arrived_32 : decode cX5_arrived 32 = .ok (.iaload, 1) := by decide +kernel
theorem dX5_arrived_33 : decode cX5_arrived 33 = .ok (.lshr, 1) := by decide +kernel
theorem dX5_arrived_34 : decode cX5_arrived 34 = .ok (.lconst 1, 1) := by decide +kernel
theorem dX5_arrived_35 : decode cX5_arrived 35 = .ok (.land, 1) := by decide +kernel
theorem dX5_arrived_36 : decode cX5_arrived 36 = .ok (.lconst 0, 1) := by decide +kernel
theorem dX5_arrived_37 : decode cX5_arrived 37 = .ok (.lcmp, 1) := by decide +kernel
theorem dX5_arrived_38 : decode cX5_arrived 38 = .ok (.ifCond .eq 6, 3) := by decide +kernel
theorem dX5_arrived_41 : decode cX5_arrived 41 = .ok (.iinc 5 1, 3) := by decide +kernel
theorem dX5_arrived_44 : decode cX5_arrived 44 = .ok (.iinc 6 1, 3) := by decide +kernel
theorem dX5_arrived_47 : decode cX5_arrived 47 = .ok (.goto (-35), 3) := by decide +kernel
theorem dX5_arrived_50 : decode cX5_arrived 50 = .ok (.iload 5, 2) := by decide +kernel
theorem dX5_arrived_52 : decode cX5_arrived 52 = .ok (.ireturn, 1) := by decide +kernel
theorem dX5_isDone_0 : decode cX5_isDone 0 = .ok (.aload_n 0, 1) := by decide +kernel
theorem dX5_isDone_1 : decode cX5_isDone 1 = .ok (.getfield 9, 3) := by decide +kernel
theorem dX5_isDone_4 : decode cX5_isDone 4 = .ok (.iload_n 2, 1) := by decide +kernel
theorem dX5_isDone_5 : decode cX5_isDone 5 = .ok (.iaload, 1) := by decide +kernel
theorem dX5_isDone_6 : decode cX5_isDone 6 = .ok (.ifCond .eq 24, 3) := by decide +kernel
theorem dX5_isDone_9 : decode cX5_isDone 9 = .ok (.aload_n 1, 1) := by decide +kernel
theorem dX5_isDone_10 : decode cX5_isDone 10 = .ok (.getfield 50, 3) := by decide +kernel
theorem dX5_isDone_13 : decode cX5_isDone 13 = .ok (.iload_n 2, 1) := by decide +kernel
theorem dX5_isDone_14 : decode cX5_isDone 14 = .ok (.iaload, 1) := by decide +kernel
theorem dX5_isDone_15 : decode cX5_isDone 15 = .ok (.aload_n 0, 1) := by decide +kernel
theorem dX5_isDone_16 : decode cX5_isDone 16 = .ok (.getfield 9, 3) := by decide +kernel
theorem dX5_isDone_19 : decode cX5_isDone 19 = .ok (.iload_n 2, 1) := by decide +kernel
theorem dX5_isDone_20 : decode cX5_isDone 20 = .ok (.iaload, 1) := by decide +kernel
theorem dX5_isDone_21 : decode cX5_isDone 21 = .ok (.aload_n 1, 1) := by decide +kernel
theorem dX5_isDone_22 : decode cX5_isDone 22 = .ok (.iload_n 2, 1) := by decide +kernel
theorem dX5_isDone_23 : decode cX5_isDone 23 = .ok (.invokevirtual 58, 3) := by decide +kernel
theorem dX5_isDone_26 : decode cX5_isDone 26 = .ok (.iadd, 1) := by decide +kernel
theorem dX5_isDone_27 : decode cX5_isDone 27 = .ok (.if_icmp .lt 7, 3) := by decide +kernel
theorem dX5_isDone_30 : decode cX5_isDone 30 = .ok (.iconst 1, 1) := by decide +kernel
theorem dX5_isDone_31 : decode cX5_isDone 31 = .ok (.goto 4, 3) := by decide +kernel
theorem dX5_isDone_34 : decode cX5_isDone 34 = .ok (.iconst 0, 1) := by decide +kernel
theorem dX5_isDone_35 : decode cX5_isDone 35 = .ok (.ireturn, 1) := by decide +kernel
theorem dX5_channelsDown_0 : decode cX5_channelsDown 0 = .ok (.iconst 0, 1) := by decide +kernel
theorem dX5_channelsDown_1 : decode cX5_channelsDown 1 = .ok (.istore_n 3, 1) := by decide +kernel
theorem dX5_channelsDown_2 : decode cX5_channelsDown 2 = .ok (.iconst 0, 1) := by decide +kernel
theorem dX5_channelsDown_3 : decode cX5_channelsDown 3 = .ok (.istore 4, 2) := by decide +kernel
theorem dX5_channelsDown_5 : decode cX5_channelsDown 5 = .ok (.iload 4, 2) := by decide +kernel
theorem dX5_channelsDown_7 : decode cX5_channelsDown 7 = .ok (.aload_n 0, 1) := by decide +kernel
theorem dX5_channelsDown_8 : decode cX5_channelsDown 8 = .ok (.getfield 9, 3) := by decide +kernel
theorem dX5_channelsDown_11 : decode cX5_channelsDown 11 = .ok (.iload_n 2, 1) := by decide +kernel
theorem dX5_channelsDown_12 : decode cX5_channelsDown 12 = .ok (.iaload, 1) := by decide +kernel
theorem dX5_channelsDown_13 : decode cX5_channelsDown 13 = .ok (.if_icmp .ge 28, 3) := by decide +kernel
theorem dX5_channelsDown_16 : decode cX5_channelsDown 16 = .ok (.aload_n 1, 1) := by decide +kernel
theorem dX5_channelsDown_17 : decode cX5_channelsDown 17 = .ok (.aload_n 0, 1) := by decide +kernel
theorem dX5_channelsDown_18 : decode cX5_channelsDown 18 = .ok (.getfield 20, 3) := by decide +kernel
theorem dX5_channelsDown_21 : decode cX5_channelsDown 21 = .ok (.iload_n 2, 1) := by decide +kernel
theorem dX5_channelsDown_22 : decode cX5_channelsDown 22 = .ok (.aaload, 1) := by decide +kernel
theorem dX5_channelsDown_23 : decode cX5_channelsDown 23 = .ok (.iload 4, 2) := by decide +kernel
theorem dX5_channelsDown_25 : decode cX5_channelsDown 25 = .ok (.iaload, 1) := by decide +kernel
theorem dX5_channelsDown_26 : decode cX5_channelsDown 26 = .ok (.invokevirtual 68, 3) := by decide +kernel
theorem dX5_channelsDown_29 : decode cX5_channelsDown 29 = .ok (.ifCond .eq 6, 3) := by decide +kernel
theorem dX5_channelsDown_32 : decode cX5_channelsDown 32 = .ok (.iinc 3 1, 3) := by decide +kernel
theorem dX5_channelsDown_35 : decode cX5_channelsDown 35 = .ok (.iinc 4 1, 3) := by decide +kernel
theorem dX5_channelsDown_38 : decode cX5_channelsDown 38 = .ok (.goto (-33), 3) := by decide +kernel
theorem dX5_channelsDown_41 : decode cX5_channelsDown 41 = .ok (.iload_n 3, 1) := by decide +kernel
theorem dX5_channelsDown_42 : decode cX5_channelsDown 42 = .ok (.ireturn, 1) := by decide +kernel
theorem dX5_undone_0 : decode cX5_undone 0 = .ok (.iload_n 2, 1) := by decide +kernel
theorem dX5_undone_1 : decode cX5_undone 1 = .ok (.iconst (-1), 1) := by decide +kernel
theorem dX5_undone_2 : decode cX5_undone 2 = .ok (.if_icmp .ne 7, 3) := by decide +kernel
theorem dX5_undone_5 : decode cX5_undone 5 = .ok (.iconst 0, 1) := by decide +kernel
theorem dX5_undone_6 : decode cX5_undone 6 = .ok (.goto 6, 3) := by decide +kernel
theorem dX5_undone_9 : decode cX5_undone 9 = .ok (.iload_n 2, 1) := by decide +kernel
theorem dX5_undone_10 : decode cX5_undone 10 = .ok (.iconst 2, 1) := by decide +kernel
theorem dX5_undone_11 : decode cX5_undone 11 = .ok (.imul, 1) := by decide +kernel
theorem dX5_undone_12 : decode cX5_undone 12 = .ok (.istore_n 3, 1) := by decide +kernel
theorem dX5_undone_13 : decode cX5_undone 13 = .ok (.iload_n 2, 1) := by decide +kernel
theorem dX5_undone_14 : decode cX5_undone 14 = .ok (.iconst (-1), 1) := by decide +kernel
theorem dX5_undone_15 : decode cX5_undone 15 = .ok (.if_icmp .ne 10, 3) := by decide +kernel
theorem dX5_undone_18 : decode cX5_undone 18 = .ok (.aload_n 1, 1) := by decide +kernel
theorem dX5_undone_19 : decode cX5_undone 19 = .ok (.invokevirtual 71, 3) := by decide +kernel
theorem dX5_undone_22 : decode cX5_undone 22 = .ok (.goto 6, 3) := by decide +kernel
theorem dX5_undone_25 : decode cX5_undone 25 = .ok (.iload_n 3, 1) := by decide +kernel
theorem dX5_undone_26 : decode cX5_undone 26 = .ok (.iconst 2, 1) := by decide +kernel
theorem dX5_undone_27 : decode cX5_undone 27 = .ok (.iadd, 1) := by decide +kernel
theorem dX5_undone_28 : decode cX5_undone 28 = .ok (.istore 4, 2) := by decide +kernel
theorem dX5_undone_30 : decode cX5_undone 30 = .ok (.iconst 0, 1) := by decide +kernel
theorem dX5_undone_31 : decode cX5_undone 31 = .ok (.istore 5, 2) := by decide +kernel
theorem dX5_undone_33 : decode cX5_undone 33 = .ok (.iload_n 3, 1) := by decide +kernel
theorem dX5_undone_34 : decode cX5_undone 34 = .ok (.istore 6, 2) := by decide +kernel
theorem dX5_undone_36 : decode cX5_undone 36 = .ok (.iload 6, 2) := by decide +kernel
theorem dX5_undone_38 : decode cX5_undone 38 = .ok (.iload 4, 2) := by decide +kernel
theorem dX5_undone_40 : decode cX5_undone 40 = .ok (.if_icmp .ge 22, 3) := by decide +kernel
theorem dX5_undone_43 : decode cX5_undone 43 = .ok (.aload_n 0, 1) := by decide +kernel
theorem dX5_undone_44 : decode cX5_undone 44 = .ok (.aload_n 1, 1) := by decide +kernel
theorem dX5_undone_45 : decode cX5_undone 45 = .ok (.iload 6, 2) := by decide +kernel
theorem dX5_undone_47 : decode cX5_undone 47 = .ok (.invokevirtual 75, 3) := by decide +kernel
theorem dX5_undone_50 : decode cX5_undone 50 = .ok (.ifCond .ne 6, 3) := by decide +kernel
theorem dX5_undone_53 : decode cX5_undone 53 = .ok (.iinc 5 1, 3) := by decide +kernel
theorem dX5_undone_56 : decode cX5_undone 56 = .ok (.iinc 6 1, 3) := by decide +kernel
theorem dX5_undone_59 : decode cX5_undone 59 = .ok (.goto (-23), 3) := by decide +kernel
theorem dX5_undone_62 : decode cX5_undone 62 = .ok (.iload 5, 2) := by decide +kernel
theorem dX5_undone_64 : decode cX5_undone 64 = .ok (.ireturn, 1) := by decide +kernel
theorem dX5_channelsHeld_0 : decode cX5_channelsHeld 0 = .ok (.iconst 0, 1) := by decide +kernel
theorem dX5_channelsHeld_1 : decode cX5_channelsHeld 1 = .ok (.istore_n 2, 1) := by decide +kernel
theorem dX5_channelsHeld_2 : decode cX5_channelsHeld 2 = .ok (.iconst 0, 1) := by decide +kernel
theorem dX5_channelsHeld_3 : decode cX5_channelsHeld 3 = .ok (.istore_n 3, 1) := by decide +kernel
theorem dX5_channelsHeld_4 : decode cX5_channelsHeld 4 = .ok (.iload_n 3, 1) := by decide +kernel
theorem dX5_channelsHeld_5 : decode cX5_channelsHeld 5 = .ok (.aload_n 1, 1) := by decide +kernel
theorem dX5_channelsHeld_6 : decode cX5_channelsHeld 6 = .ok (.invokevirtual 71, 3) := by decide +kernel
theorem dX5_channelsHeld_9 : decode cX5_channelsHeld 9 = .ok (.if_icmp .ge 25, 3) := by decide +kernel
theorem dX5_channelsHeld_12 : decode cX5_channelsHeld 12 = .ok (.iload_n 2, 1) := by decide +kernel
theorem dX5_channelsHeld_13 : decode cX5_channelsHeld 13 = .ok (.aload_n 0, 1) := by decide +kernel
theorem dX5_channelsHeld_14 : decode cX5_channelsHeld 14 = .ok (.aload_n 1, 1) := by decide +kernel
theorem dX5_channelsHeld_15 : decode cX5_channelsHeld 15 = .ok (.iload_n 3, 1) := by decide +kernel
theorem dX5_channelsHeld_16 : decode cX5_channelsHeld 16 = .ok (.invokevirtual 64, 3) := by decide +kernel
theorem dX5_channelsHeld_19 : decode cX5_channelsHeld 19 = .ok (.aload_n 0, 1) := by decide +kernel
theorem dX5_channelsHeld_20 : decode cX5_channelsHeld 20 = .ok (.aload_n 1, 1) := by decide +kernel
theorem dX5_channelsHeld_21 : decode cX5_channelsHeld 21 = .ok (.iload_n 3, 1) := by decide +kernel
theorem dX5_channelsHeld_22 : decode cX5_channelsHeld 22 = .ok (.invokevirtual 79, 3) := by decide +kernel
theorem dX5_channelsHeld_25 : decode cX5_channelsHeld 25 = .ok (.isub, 1) := by decide +kernel
theorem dX5_channelsHeld_26 : decode cX5_channelsHeld 26 = .ok (.iadd, 1) := by decide +kernel
theorem dX5_channelsHeld_27 : decode cX5_channelsHeld 27 = .ok (.istore_n 2, 1) := by decide +kernel
theorem dX5_channelsHeld_28 : decode cX5_channelsHeld 28 = .ok (.iinc 3 1, 3) := by decide +kernel
theorem dX5_channelsHeld_31 : decode cX5_channelsHeld 31 = .ok (.goto (-27), 3) := by decide +kernel
theorem dX5_channelsHeld_34 : decode cX5_channelsHeld 34 = .ok (.iload_n 2, 1) := by decide +kernel
theorem dX5_channelsHeld_35 : decode cX5_channelsHeld 35 = .ok (.ireturn, 1) := by decide +kernel
theorem dX5_holderOf_0 : decode cX5_holderOf 0 = .ok (.iconst 0, 1) := by decide +kernel
theorem dX5_holderOf_1 : decode cX5_holderOf 1 = .ok (.istore_n 3, 1) := by decide +kernel
theorem dX5_holderOf_2 : decode cX5_holderOf 2 = .ok (.iload_n 3, 1) := by decide +kernel
theorem dX5_holderOf_3 : decode cX5_holderOf 3 = .ok (.aload_n 1, 1) := by decide +kernel
theorem dX5_holderOf_4 : decode cX5_holderOf 4 = .ok (.invokevirtual 71, 3) := by decide +kernel
theorem dX5_holderOf_7 : decode cX5_holderOf 7 = .ok (.if_icmp .ge 49, 3) := by decide +kernel
theorem dX5_holderOf_10 : decode cX5_holderOf 10 = .ok (.aload_n 0, 1) := by decide +kernel
theorem dX5_holderOf_11 : decode cX5_holderOf 11 = .ok (.aload_n 1, 1) := by decide +kernel
theorem dX5_holderOf_12 : decode cX5_holderOf 12 = .ok (.iload_n 3, 1) := by decide +kernel
theorem dX5_holderOf_13 : decode cX5_holderOf 13 = .ok (.invokevirtual 79, 3) := by decide +kernel
theorem dX5_holderOf_16 : decode cX5_holderOf 16 = .ok (.istore 4, 2) := by decide +kernel
theorem dX5_holderOf_18 : decode cX5_holderOf 18 = .ok (.iload 4, 2) := by decide +kernel
theorem dX5_holderOf_20 : decode cX5_holderOf 20 = .ok (.aload_n 0, 1) := by decide +kernel
theorem dX5_holderOf_21 : decode cX5_holderOf 21 = .ok (.aload_n 1, 1) := by decide +kernel
theorem dX5_holderOf_22 : decode cX5_holderOf 22 = .ok (.iload_n 3, 1) := by decide +kernel
theorem dX5_holderOf_23 : decode cX5_holderOf 23 = .ok (.invokevirtual 64, 3) := by decide +kernel
theorem dX5_holderOf_26 : decode cX5_holderOf 26 = .ok (.if_icmp .ge 24, 3) := by decide +kernel
theorem dX5_holderOf_29 : decode cX5_holderOf 29 = .ok (.aload_n 0, 1) := by decide +kernel
theorem dX5_holderOf_30 : decode cX5_holderOf 30 = .ok (.getfield 20, 3) := by decide +kernel
theorem dX5_holderOf_33 : decode cX5_holderOf 33 = .ok (.iload_n 3, 1) := by decide +kernel
theorem dX5_holderOf_34 : decode cX5_holderOf 34 = .ok (.aaload, 1) := by decide +kernel
theorem dX5_holderOf_35 : decode cX5_holderOf 35 = .ok (.iload 4, 2) := by decide +kernel
theorem dX5_holderOf_37 : decode cX5_holderOf 37 = .ok (.iaload, 1) := by decide +kernel
theorem dX5_holderOf_38 : decode cX5_holderOf 38 = .ok (.iload_n 2, 1) := by decide +kernel
theorem dX5_holderOf_39 : decode cX5_holderOf 39 = .ok (.if_icmp .ne 5, 3) := by decide +kernel
theorem dX5_holderOf_42 : decode cX5_holderOf 42 = .ok (.iload_n 3, 1) := by decide +kernel
theorem dX5_holderOf_43 : decode cX5_holderOf 43 = .ok (.ireturn, 1) := by decide +kernel
theorem dX5_holderOf_44 : decode cX5_holderOf 44 = .ok (.iinc 4 1, 3) := by decide +kernel
theorem dX5_holderOf_47 : decode cX5_holderOf 47 = .ok (.goto (-29), 3) := by decide +kernel
theorem dX5_holderOf_50 : decode cX5_holderOf 50 = .ok (.iinc 3 1, 3) := by decide +kernel
theorem dX5_holderOf_53 : decode cX5_holderOf 53 = .ok (.goto (-51), 3) := by decide +kernel
theorem dX5_holderOf_56 : decode cX5_holderOf 56 = .ok (.iconst (-1), 1) := by decide +kernel
theorem dX5_holderOf_57 : decode cX5_holderOf 57 = .ok (.ireturn, 1) := by decide +kernel
theorem dX6_init_0 : decode cX6_init 0 = .ok (.aload_n 0, 1) := by decide +kernel
theorem dX6_init_1 : decode cX6_init 1 = .ok (.invokespecial 3, 3) := by decide +kernel
theorem dX6_init_4 : decode cX6_init 4 = .ok (.aload_n 0, 1) := by decide +kernel
theorem dX6_init_5 : decode cX6_init 5 = .ok (.new 9, 3) := by decide +kernel
theorem dX6_init_8 : decode cX6_init 8 = .ok (.dup, 1) := by decide +kernel
theorem dX6_init_9 : decode cX6_init 9 = .ok (.invokespecial 11, 3) := by decide +kernel
theorem dX6_init_12 : decode cX6_init 12 = .ok (.putfield 12, 3) := by decide +kernel
theorem dX6_init_15 : decode cX6_init 15 = .ok (.aload_n 0, 1) := by decide +kernel
theorem dX6_init_16 : decode cX6_init 16 = .ok (.new 9, 3) := by decide +kernel
theorem dX6_init_19 : decode cX6_init 19 = .ok (.dup, 1) := by decide +kernel
theorem dX6_init_20 : decode cX6_init 20 = .ok (.invokespecial 11, 3) := by decide +kernel
theorem dX6_init_23 : decode cX6_init 23 = .ok (.putfield 16, 3) := by decide +kernel
theorem dX6_init_26 : decode cX6_init 26 = .ok (.aload_n 0, 1) := by decide +kernel
theorem dX6_init_27 : decode cX6_init 27 = .ok (.new 9, 3) := by decide +kernel
theorem dX6_init_30 : decode cX6_init 30 = .ok (.dup, 1) := by decide +kernel
theorem dX6_init_31 : decode cX6_init 31 = .ok (.invokespecial 11, 3) := by decide +kernel
theorem dX6_init_34 : decode cX6_init 34 = .ok (.putfield 19, 3) := by decide +kernel
theorem dX6_init_37 : decode cX6_init 37 = .ok (.aload_n 0, 1) := by decide +kernel
theorem dX6_init_38 : decode cX6_init 38 = .ok (.new 22, 3) := by decide +kernel
theorem dX6_init_41 : decode cX6_init 41 = .ok (.dup, 1) := by decide +kernel
theorem dX6_init_42 : decode cX6_init 42 = .ok (.invokespecial 24, 3) := by decide +kernel
theorem dX6_init_45 : decode cX6_init 45 = .ok (.putfield 25, 3) := by decide +kernel
theorem dX6_init_48 : decode cX6_init 48 = .ok (.aload_n 0, 1) := by decide +kernel
theorem dX6_init_49 : decode cX6_init 49 = .ok (.new 29, 3) := by decide +kernel
theorem dX6_init_52 : decode cX6_init 52 = .ok (.dup, 1) := by decide +kernel
theorem dX6_init_53 : decode cX6_init 53 = .ok (.invokespecial 31, 3) := by decide +kernel
theorem dX6_init_56 : decode cX6_init 56 = .ok (.putfield 32, 3) := by decide +kernel
theorem dX6_init_59 : decode cX6_init 59 = .ok (.aload_n 0, 1) := by decide +kernel
theorem dX6_init_60 : decode cX6_init 60 = .ok (.new 36, 3) := by decide +kernel
theorem dX6_init_63 : decode cX6_init 63 = .ok (.dup, 1) := by decide +kernel
theorem dX6_init_64 : decode cX6_init 64 = .ok (.invokespecial 38, 3) := by decide +kernel
theorem dX6_init_67 : decode cX6_init 67 = .ok (.putfield 39, 3) := by decide +kernel
theorem dX6_init_70 : decode cX6_init 70 = .ok (.aload_n 0, 1) := by decide +kernel
theorem dX6_init_71 : decode cX6_init 71 = .ok (.new 43, 3) := by decide +kernel
theorem dX6_init_74 : decode cX6_init 74 = .ok (.dup, 1) := by decide +kernel
theorem dX6_init_75 : decode cX6_init 75 = .ok (.invokespecial 45, 3) := by decide +kernel
theorem dX6_init_78 : decode cX6_init 78 = .ok (.putfield 46, 3) := by decide +kernel
theorem dX6_init_81 : decode cX6_init 81 = .ok (.aload_n 0, 1) := by decide +kernel
theorem dX6_init_82 : decode cX6_init 82 = .ok (.new 50, 3) := by decide +kernel
theorem dX6_init_85 : decode cX6_init 85 = .ok (.dup, 1) := by decide +kernel
theorem dX6_init_86 : decode cX6_init 86 = .ok (.invokespecial 52, 3) := by decide +kernel
theorem dX6_init_89 : decode cX6_init 89 = .ok (.putfield 53, 3) := by decide +kernel
theorem dX6_init_92 : decode cX6_init 92 = .ok (.aload_n 0, 1) := by decide +kernel
theorem dX6_init_93 : decode cX6_init 93 = .ok (.getfield 12, 3) := by decide +kernel
theorem dX6_init_96 : decode cX6_init 96 = .ok (.iconst 4, 1) := by decide +kernel
theorem dX6_init_97 : decode cX6_init 97 = .ok (.iconst 4, 1) := by decide +kernel
theorem dX6_init_98 : decode cX6_init 98 = .ok (.invokevirtual 57, 3) := by decide +kernel
theorem dX6_init_101 : decode cX6_init 101 = .ok (.aload_n 0, 1) := by decide +kernel
theorem dX6_init_102 : decode cX6_init 102 = .ok (.getfield 32, 3) := by decide +kernel
theorem dX6_init_105 : decode cX6_init 105 = .ok (.iconst 4, 1) := by decide +kernel
theorem dX6_init_106 : decode cX6_init 106 = .ok (.iconst 4, 1) := by decide +kernel
theorem dX6_init_107 : decode cX6_init 107 = .ok (.invokevirtual 61, 3) := by decide +kernel
theorem dX6_init_110 : decode cX6_init 110 = .ok (.return_, 1) := by decide +kernel
theorem dX6_mesh_0 : decode cX6_mesh 0 = .ok (.aload_n 0, 1) := by decide +kernel
theorem dX6_mesh_1 : decode cX6_mesh 1 = .ok (.getfield 16, 3) := by decide +kernel
theorem dX6_mesh_4 : decode cX6_mesh 4 = .ok (.aload_n 0, 1) := by decide +kernel
theorem dX6_mesh_5 : decode cX6_mesh 5 = .ok (.getfield 12, 3) := by decide +kernel
theorem dX6_mesh_8 : decode cX6_mesh 8 = .ok (.invokevirtual 64, 3) := by decide +kernel
theorem dX6_mesh_11 : decode cX6_mesh 11 = .ok (.aload_n 0, 1) := by decide +kernel
theorem dX6_mesh_12 : decode cX6_mesh 12 = .ok (.aload_n 0, 1) := by decide +kernel
theorem dX6_mesh_13 : decode cX6_mesh 13 = .ok (.iload_n 1, 1) := by decide +kernel
theorem dX6_mesh_14 : decode cX6_mesh 14 = .ok (.iload_n 2, 1) := by decide +kernel
theorem dX6_mesh_15 : decode cX6_mesh 15 = .ok (.invokevirtual 68, 3) := by decide +kernel
theorem dX6_mesh_18 : decode cX6_mesh 18 = .ok (.invokevirtual 72, 3) := by decide +kernel
theorem dX6_mesh_21 : decode cX6_mesh 21 = .ok (.ireturn, 1) := by decide +kernel
theorem dX6_message_0 : decode cX6_message 0 = .ok (.aload_n 0, 1) := by decide +kernel
theorem dX6_message_1 : decode cX6_message 1 = .ok (.getfield 16, 3) := by decide +kernel
theorem dX6_message_4 : decode cX6_message 4 = .ok (.aload_n 0, 1) := by decide +kernel
theorem dX6_message_5 : decode cX6_message 5 = .ok (.getfield 12, 3) := by decide +kernel
theorem dX6_message_8 : decode cX6_message 8 = .ok (.invokevirtual 64, 3) := by decide +kernel
theorem dX6_message_11 : decode cX6_message 11 = .ok (.aload_n 0, 1) := by decide +kernel
theorem dX6_message_12 : decode cX6_message 12 = .ok (.aload_n 0, 1) := by decide +kernel
theorem dX6_message_13 : decode cX6_message 13 = .ok (.iload_n 1, 1) := by decide +kernel
theorem dX6_message_14 : decode cX6_message 14 = .ok (.iload_n 2, 1) := by decide +kernel
theorem dX6_message_15 : decode cX6_message 15 = .ok (.iload_n 3, 1) := by decide +kernel
theorem dX6_message_16 : decode cX6_message 16 = .ok (.invokevirtual 76, 3) := by decide +kernel
theorem dX6_message_19 : decode cX6_message 19 = .ok (.invokevirtual 72, 3) := by decide +kernel
theorem dX6_message_22 : decode cX6_message 22 = .ok (.ireturn, 1) := by decide +kernel
theorem dX6_goal_0 : decode cX6_goal 0 = .ok (.aload_n 0, 1) := by decide +kernel
theorem dX6_goal_1 : decode cX6_goal 1 = .ok (.getfield 16, 3) := by decide +kernel
theorem dX6_goal_4 : decode cX6_goal 4 = .ok (.aload_n 0, 1) := by decide +kernel
theorem dX6_goal_5 : decode cX6_goal 5 = .ok (.getfield 12, 3) := by decide +kernel
theorem dX6_goal_8 : decode cX6_goal 8 = .ok (.invokevirtual 64, 3) := by decide +kernel
theorem dX6_goal_11 : decode cX6_goal 11 = .ok (.aload_n 0, 1) := by decide +kernel
theorem dX6_goal_12 : decode cX6_goal 12 = .ok (.aload_n 0, 1) := by decide +kernel
theorem dX6_goal_13 : decode cX6_goal 13 = .ok (.iload_n 1, 1) := by decide +kernel
theorem dX6_goal_14 : decode cX6_goal 14 = .ok (.iload_n 2, 1) := by decide +kernel
theorem dX6_goal_15 : decode cX6_goal 15 = .ok (.iload_n 3, 1) := by decide +kernel
theorem dX6_goal_16 : decode cX6_goal 16 = .ok (.invokevirtual 80, 3) := by decide +kernel
theorem dX6_goal_19 : decode cX6_goal 19 = .ok (.invokevirtual 72, 3) := by decide +kernel
theorem dX6_goal_22 : decode cX6_goal 22 = .ok (.ireturn, 1) := by decide +kernel
theorem dX6_turns_0 : decode cX6_turns 0 = .ok (.aload_n 0, 1) := by decide +kernel
theorem dX6_turns_1 : decode cX6_turns 1 = .ok (.getfield 16, 3) := by decide +kernel
theorem dX6_turns_4 : decode cX6_turns 4 = .ok (.aload_n 0, 1) := by decide +kernel
theorem dX6_turns_5 : decode cX6_turns 5 = .ok (.getfield 12, 3) := by decide +kernel
theorem dX6_turns_8 : decode cX6_turns 8 = .ok (.invokevirtual 64, 3) := by decide +kernel
theorem dX6_turns_11 : decode cX6_turns 11 = .ok (.aload_n 0, 1) := by decide +kernel
theorem dX6_turns_12 : decode cX6_turns 12 = .ok (.aload_n 0, 1) := by decide +kernel
theorem dX6_turns_13 : decode cX6_turns 13 = .ok (.iload_n 1, 1) := by decide +kernel
theorem dX6_turns_14 : decode cX6_turns 14 = .ok (.iload_n 2, 1) := by decide +kernel
theorem dX6_turns_15 : decode cX6_turns 15 = .ok (.iload_n 3, 1) := by decide +kernel
theorem dX6_turns_16 : decode cX6_turns 16 = .ok (.invokevirtual 83, 3) := by decide +kernel
theorem dX6_turns_19 : decode cX6_turns 19 = .ok (.invokevirtual 72, 3) := by decide +kernel
theorem dX6_turns_22 : decode cX6_turns 22 = .ok (.ireturn, 1) := by decide +kernel
theorem dX6_steps_0 : decode cX6_steps 0 = .ok (.aload_n 0, 1) := by decide +kernel
theorem dX6_steps_1 : decode cX6_steps 1 = .ok (.getfield 16, 3) := by decide +kernel
theorem dX6_steps_4 : decode cX6_steps 4 = .ok (.aload_n 0, 1) := by decide +kernel
theorem dX6_steps_5 : decode cX6_steps 5 = .ok (.getfield 12, 3) := by decide +kernel
theorem dX6_steps_8 : decode cX6_steps 8 = .ok (.invokevirtual 64, 3) := by decide +kernel
theorem dX6_steps_11 : decode cX6_steps 11 = .ok (.aload_n 0, 1) := by decide +kernel
theorem dX6_steps_12 : decode cX6_steps 12 = .ok (.aload_n 0, 1) := by decide +kernel
theorem dX6_steps_13 : decode cX6_steps 13 = .ok (.iload_n 1, 1) := by decide +kernel
theorem dX6_steps_14 : decode cX6_steps 14 = .ok (.invokevirtual 86, 3) := by decide +kernel
theorem dX6_steps_17 : decode cX6_steps 17 = .ok (.invokevirtual 72, 3) := by decide +kernel
theorem dX6_steps_20 : decode cX6_steps 20 = .ok (.ireturn, 1) := by decide +kernel
theorem dX6_again_0 : decode cX6_again 0 = .ok (.aload_n 0, 1) := by decide +kernel
theorem dX6_again_1 : decode cX6_again 1 = .ok (.getfield 16, 3) := by decide +kernel
theorem dX6_again_4 : decode cX6_again 4 = .ok (.aload_n 0, 1) := by decide +kernel
theorem dX6_again_5 : decode cX6_again 5 = .ok (.getfield 12, 3) := by decide +kernel
theorem dX6_again_8 : decode cX6_again 8 = .ok (.invokevirtual 64, 3) := by decide +kernel
theorem dX6_again_11 : decode cX6_again 11 = .ok (.aload_n 0, 1) := by decide +kernel
theorem dX6_again_12 : decode cX6_again 12 = .ok (.aload_n 0, 1) := by decide +kernel
theorem dX6_again_13 : decode cX6_again 13 = .ok (.invokevirtual 89, 3) := by decide +kernel
theorem dX6_again_16 : decode cX6_again 16 = .ok (.invokevirtual 72, 3) := by decide +kernel
theorem dX6_again_19 : decode cX6_again 19 = .ok (.ireturn, 1) := by decide +kernel
theorem dX6_label_0 : decode cX6_label 0 = .ok (.aload_n 0, 1) := by decide +kernel
theorem dX6_label_1 : decode cX6_label 1 = .ok (.getfield 32, 3) := by decide +kernel
theorem dX6_label_4 : decode cX6_label 4 = .ok (.iload_n 1, 1) := by decide +kernel
theorem dX6_label_5 : decode cX6_label 5 = .ok (.iload_n 2, 1) := by decide +kernel
theorem dX6_label_6 : decode cX6_label 6 = .ok (.invokevirtual 93, 3) := by decide +kernel
theorem dX6_label_9 : decode cX6_label 9 = .ok (.ifCond .eq 15, 3) := by decide +kernel
theorem dX6_label_12 : decode cX6_label 12 = .ok (.aload_n 0, 1) := by decide +kernel
theorem dX6_label_13 : decode cX6_label 13 = .ok (.getfield 32, 3) := by decide +kernel
theorem dX6_label_16 : decode cX6_label 16 = .ok (.iload_n 1, 1) := by decide +kernel
theorem dX6_label_17 : decode cX6_label 17 = .ok (.iload_n 2, 1) := by decide +kernel
theorem dX6_label_18 : decode cX6_label 18 = .ok (.invokevirtual 97, 3) := by decide +kernel
theorem dX6_label_21 : decode cX6_label 21 = .ok (.goto 9, 3) := by decide +kernel
theorem dX6_label_24 : decode cX6_label 24 = .ok (.aload_n 0, 1) := by decide +kernel
theorem dX6_label_25 : decode cX6_label 25 = .ok (.bipush (-2), 2) := by decide +kernel
theorem dX6_label_27 : decode cX6_label 27 = .ok (.invokevirtual 100, 3) := by decide +kernel
theorem dX6_label_30 : decode cX6_label 30 = .ok (.ireturn, 1) := by decide +kernel
theorem dX6_place_0 : decode cX6_place 0 = .ok (.aload_n 0, 1) := by decide +kernel
theorem dX6_place_1 : decode cX6_place 1 = .ok (.getfield 32, 3) := by decide +kernel
theorem dX6_place_4 : decode cX6_place 4 = .ok (.iload_n 1, 1) := by decide +kernel
theorem dX6_place_5 : decode cX6_place 5 = .ok (.invokevirtual 103, 3) := by decide +kernel
theorem dX6_place_8 : decode cX6_place 8 = .ok (.ifCond .eq 14, 3) := by decide +kernel
theorem dX6_place_11 : decode cX6_place 11 = .ok (.aload_n 0, 1) := by decide +kernel
theorem dX6_place_12 : decode cX6_place 12 = .ok (.getfield 32, 3) := by decide +kernel
theorem dX6_place_15 : decode cX6_place 15 = .ok (.iload_n 1, 1) := by decide +kernel
theorem dX6_place_16 : decode cX6_place 16 = .ok (.invokevirtual 107, 3) := by decide +kernel
theorem dX6_place_19 : decode cX6_place 19 = .ok (.goto 9, 3) := by decide +kernel
theorem dX6_place_22 : decode cX6_place 22 = .ok (.aload_n 0, 1) := by decide +kernel
theorem dX6_place_23 : decode cX6_place 23 = .ok (.bipush (-2), 2) := by decide +kernel
theorem dX6_place_25 : decode cX6_place 25 = .ok (.invokevirtual 100, 3) := by decide +kernel
theorem dX6_place_28 : decode cX6_place 28 = .ok (.ireturn, 1) := by decide +kernel
theorem dX6_next_0 : decode cX6_next 0 = .ok (.aload_n 0, 1) := by decide +kernel
theorem dX6_next_1 : decode cX6_next 1 = .ok (.getfield 32, 3) := by decide +kernel
theorem dX6_next_4 : decode cX6_next 4 = .ok (.iload_n 1, 1) := by decide +kernel
theorem dX6_next_5 : decode cX6_next 5 = .ok (.iload_n 2, 1) := by decide +kernel
theorem dX6_next_6 : decode cX6_next 6 = .ok (.invokevirtual 93, 3) := by decide +kernel
theorem dX6_next_9 : decode cX6_next 9 = .ok (.ifCond .eq 27, 3) := by decide +kernel
theorem dX6_next_12 : decode cX6_next 12 = .ok (.aload_n 0, 1) := by decide +kernel
theorem dX6_next_13 : decode cX6_next 13 = .ok (.getfield 32, 3) := by decide +kernel
theorem dX6_next_16 : decode cX6_next 16 = .ok (.iload_n 3, 1) := by decide +kernel
theorem dX6_next_17 : decode cX6_next 17 = .ok (.iload 4, 2) := by decide +kernel
theorem dX6_next_19 : decode cX6_next 19 = .ok (.invokevirtual 93, 3) := by decide +kernel
theorem dX6_next_22 : decode cX6_next 22 = .ok (.ifCond .eq 14, 3) := by decide +kernel
theorem dX6_next_25 : decode cX6_next 25 = .ok (.iload_n 1, 1) := by decide +kernel
theorem dX6_next_26 : decode cX6_next 26 = .ok (.iload_n 3, 1) := by decide +kernel
theorem dX6_next_27 : decode cX6_next 27 = .ok (.if_icmp .ne 16, 3) := by decide +kernel
theorem dX6_next_30 : decode cX6_next 30 = .ok (.iload_n 2, 1) := by decide +kernel
theorem dX6_next_31 : decode cX6_next 31 = .ok (.iload 4, 2) := by decide +kernel
theorem dX6_next_33 : decode cX6_next 33 = .ok (.if_icmp .ne 10, 3) := by decide +kernel
theorem dX6_next_36 : decode cX6_next 36 = .ok (.aload_n 0, 1) := by decide +kernel
theorem dX6_next_37 : decode cX6_next 37 = .ok (.bipush (-2), 2) := by decide +kernel
theorem dX6_next_39 : decode cX6_next 39 = .ok (.invokevirtual 100, 3) := by decide +kernel
theorem dX6_next_42 : decode cX6_next 42 = .ok (.ireturn, 1) := by decide +kernel
theorem dX6_next_43 : decode cX6_next 43 = .ok (.aload_n 0, 1) := by decide +kernel
theorem dX6_next_44 : decode cX6_next 44 = .ok (.getfield 32, 3) := by decide +kernel
theorem dX6_next_47 : decode cX6_next 47 = .ok (.aload_n 0, 1) := by decide +kernel
theorem dX6_next_48 : decode cX6_next 48 = .ok (.getfield 32, 3) := by decide +kernel
theorem dX6_next_51 : decode cX6_next 51 = .ok (.aload_n 0, 1) := by decide +kernel
theorem dX6_next_52 : decode cX6_next 52 = .ok (.getfield 32, 3) := by decide +kernel
theorem dX6_next_55 : decode cX6_next 55 = .ok (.aload_n 0, 1) := by decide +kernel
theorem dX6_next_56 : decode cX6_next 56 = .ok (.getfield 32, 3) := by decide +kernel
theorem dX6_next_59 : decode cX6_next 59 = .ok (.iload_n 1, 1) := by decide +kernel
theorem dX6_next_60 : decode cX6_next 60 = .ok (.iload_n 2, 1) := by decide +kernel
theorem dX6_next_61 : decode cX6_next 61 = .ok (.invokevirtual 97, 3) := by decide +kernel
theorem dX6_next_64 : decode cX6_next 64 = .ok (.aload_n 0, 1) := by decide +kernel
theorem dX6_next_65 : decode cX6_next 65 = .ok (.getfield 32, 3) := by decide +kernel
theorem dX6_next_68 : decode cX6_next 68 = .ok (.iload_n 3, 1) := by decide +kernel
theorem dX6_next_69 : decode cX6_next 69 = .ok (.iload 4, 2) := by decide +kernel
theorem dX6_next_71 : decode cX6_next 71 = .ok (.invokevirtual 97, 3) := by decide +kernel
theorem dX6_next_74 : decode cX6_next 74 = .ok (.invokevirtual 110, 3) := by decide +kernel
theorem dX6_next_77 : decode cX6_next 77 = .ok (.invokevirtual 113, 3) := by decide +kernel
theorem dX6_next_80 : decode cX6_next 80 = .ok (.invokevirtual 107, 3) := by decide +kernel
theorem dX6_next_83 : decode cX6_next 83 = .ok (.ireturn, 1) := by decide +kernel
theorem dX6_far_0 : decode cX6_far 0 = .ok (.aload_n 0, 1) := by decide +kernel
theorem dX6_far_1 : decode cX6_far 1 = .ok (.getfield 32, 3) := by decide +kernel
theorem dX6_far_4 : decode cX6_far 4 = .ok (.iload_n 1, 1) := by decide +kernel
theorem dX6_far_5 : decode cX6_far 5 = .ok (.iload_n 2, 1) := by decide +kernel
theorem dX6_far_6 : decode cX6_far 6 = .ok (.invokevirtual 93, 3) := by decide +kernel
theorem dX6_far_9 : decode cX6_far 9 = .ok (.ifCond .eq 16, 3) := by decide +kernel
theorem dX6_far_12 : decode cX6_far 12 = .ok (.aload_n 0, 1) := by decide +kernel
theorem dX6_far_13 : decode cX6_far 13 = .ok (.getfield 32, 3) := by decide +kernel
theorem dX6_far_16 : decode cX6_far 16 = .ok (.iload_n 3, 1) := by decide +kernel
theorem dX6_far_17 : decode cX6_far 17 = .ok (.iload 4, 2) := by decide +kernel
theorem dX6_far_19 : decode cX6_far 19 = .ok (.invokevirtual 93, 3) := by decide +kernel
theorem dX6_far_22 : decode cX6_far 22 = .ok (.ifCond .ne 10, 3) := by decide +kernel
theorem dX6_far_25 : decode cX6_far 25 = .ok (.aload_n 0, 1) := by decide +kernel
theorem dX6_far_26 : decode cX6_far 26 = .ok (.bipush (-2), 2) := by decide +kernel
theorem dX6_far_28 : decode cX6_far 28 = .ok (.invokevirtual 100, 3) := by decide +kernel
theorem dX6_far_31 : decode cX6_far 31 = .ok (.ireturn, 1) := by decide +kernel
theorem dX6_far_32 : decode cX6_far 32 = .ok (.aload_n 0, 1) := by decide +kernel
theorem dX6_far_33 : decode cX6_far 33 = .ok (.getfield 32, 3) := by decide +kernel
theorem dX6_far_36 : decode cX6_far 36 = .ok (.aload_n 0, 1) := by decide +kernel
theorem dX6_far_37 : decode cX6_far 37 = .ok (.getfield 32, 3) := by decide +kernel
theorem dX6_far_40 : decode cX6_far 40 = .ok (.iload_n 1, 1) := by decide +kernel
theorem dX6_far_41 : decode cX6_far 41 = .ok (.iload_n 2, 1) := by decide +kernel
theorem dX6_far_42 : decode cX6_far 42 = .ok (.invokevirtual 97, 3) := by decide +kernel
theorem dX6_far_45 : decode cX6_far 45 = .ok (.aload_n 0, 1) := by decide +kernel
theorem dX6_far_46 : decode cX6_far 46 = .ok (.getfield 32, 3) := by decide +kernel
theorem dX6_far_49 : decode cX6_far 49 = .ok (.iload_n 3, 1) := by decide +kernel
theorem dX6_far_50 : decode cX6_far 50 = .ok (.iload 4, 2) := by decide +kernel
theorem dX6_far_52 : decode cX6_far 52 = .ok (.invokevirtual 97, 3) := by decide +kernel
theorem dX6_far_55 : decode cX6_far 55 = .ok (.invokevirtual 116, 3) := by decide +kernel
theorem dX6_far_58 : decode cX6_far 58 = .ok (.ireturn, 1) := by decide +kernel
theorem dX6_holds_0 : decode cX6_holds 0 = .ok (.aload_n 0, 1) := by decide +kernel
theorem dX6_holds_1 : decode cX6_holds 1 = .ok (.getfield 32, 3) := by decide +kernel
theorem dX6_holds_4 : decode cX6_holds 4 = .ok (.iload_n 1, 1) := by decide +kernel
theorem dX6_holds_5 : decode cX6_holds 5 = .ok (.iload_n 2, 1) := by decide +kernel
theorem dX6_holds_6 : decode cX6_holds 6 = .ok (.iload_n 3, 1) := by decide +kernel
theorem dX6_holds_7 : decode cX6_holds 7 = .ok (.invokevirtual 119, 3) := by decide +kernel
theorem dX6_holds_10 : decode cX6_holds 10 = .ok (.istore 4, 2) := by decide +kernel
theorem dX6_holds_12 : decode cX6_holds 12 = .ok (.iload 4, 2) := by decide +kernel
theorem dX6_holds_14 : decode cX6_holds 14 = .ok (.iconst (-1), 1) := by decide +kernel
theorem dX6_holds_15 : decode cX6_holds 15 = .ok (.if_icmp .ne 12, 3) := by decide +kernel
theorem dX6_holds_18 : decode cX6_holds 18 = .ok (.aload_n 0, 1) := by decide +kernel
theorem dX6_holds_19 : decode cX6_holds 19 = .ok (.bipush (-2), 2) := by decide +kernel
theorem dX6_holds_21 : decode cX6_holds 21 = .ok (.invokevirtual 100, 3) := by decide +kernel
theorem dX6_holds_24 : decode cX6_holds 24 = .ok (.goto 16, 3) := by decide +kernel
theorem dX6_holds_27 : decode cX6_holds 27 = .ok (.aload_n 0, 1) := by decide +kernel
theorem dX6_holds_28 : decode cX6_holds 28 = .ok (.getfield 39, 3) := by decide +kernel
theorem dX6_holds_31 : decode cX6_holds 31 = .ok (.aload_n 0, 1) := by decide +kernel
theorem dX6_holds_32 : decode cX6_holds 32 = .ok (.getfield 12, 3) := by decide +kernel
theorem dX6_holds_35 : decode cX6_holds 35 = .ok (.iload 4, 2) := by decide +kernel
theorem dX6_holds_37 : decode cX6_holds 37 = .ok (.invokevirtual 122, 3) := by decide +kernel
theorem dX6_holds_40 : decode cX6_holds 40 = .ok (.ireturn, 1) := by decide +kernel
theorem dX6_worm_0 : decode cX6_worm 0 = .ok (.aload_n 0, 1) := by decide +kernel
theorem dX6_worm_1 : decode cX6_worm 1 = .ok (.iload_n 1, 1) := by decide +kernel
theorem dX6_worm_2 : decode cX6_worm 2 = .ok (.iload_n 2, 1) := by decide +kernel
theorem dX6_worm_3 : decode cX6_worm 3 = .ok (.invokevirtual 126, 3) := by decide +kernel
theorem dX6_worm_6 : decode cX6_worm 6 = .ok (.ifCond .eq 13, 3) := by decide +kernel
theorem dX6_worm_9 : decode cX6_worm 9 = .ok (.iload_n 3, 1) := by decide +kernel
theorem dX6_worm_10 : decode cX6_worm 10 = .ok (.ifCond .lt 9, 3) := by decide +kernel
theorem dX6_worm_13 : decode cX6_worm 13 = .ok (.iload_n 3, 1) := by decide +kernel
theorem dX6_worm_14 : decode cX6_worm 14 = .ok (.bipush 9, 2) := by decide +kernel
theorem dX6_worm_16 : decode cX6_worm 16 = .ok (.if_icmp .lt 10, 3) := by decide +kernel
theorem dX6_worm_19 : decode cX6_worm 19 = .ok (.aload_n 0, 1) := by decide +kernel
theorem dX6_worm_20 : decode cX6_worm 20 = .ok (.bipush (-2), 2) := by decide +kernel
theorem dX6_worm_22 : decode cX6_worm 22 = .ok (.invokevirtual 100, 3) := by decide +kernel
theorem dX6_worm_25 : decode cX6_worm 25 = .ok (.ireturn, 1) := by decide +kernel
theorem dX6_worm_26 : decode cX6_worm 26 = .ok (.aload_n 0, 1) := by decide +kernel
theorem dX6_worm_27 : decode cX6_worm 27 = .ok (.iload_n 1, 1) := by decide +kernel
theorem dX6_worm_28 : decode cX6_worm 28 = .ok (.iconst 2, 1) := by decide +kernel
theorem dX6_worm_29 : decode cX6_worm 29 = .ok (.imul, 1) := by decide +kernel
theorem dX6_worm_30 : decode cX6_worm 30 = .ok (.iload_n 2, 1) := by decide +kernel
theorem dX6_worm_31 : decode cX6_worm 31 = .ok (.iadd, 1) := by decide +kernel
theorem dX6_worm_32 : decode cX6_worm 32 = .ok (.iload_n 3, 1) := by decide +kernel
theorem dX6_worm_33 : decode cX6_worm 33 = .ok (.invokevirtual 129, 3) := by decide +kernel
theorem dX6_worm_36 : decode cX6_worm 36 = .ok (.ireturn, 1) := by decide +kernel
theorem dX6_way_0 : decode cX6_way 0 = .ok (.aload_n 0, 1) := by decide +kernel
theorem dX6_way_1 : decode cX6_way 1 = .ok (.iload_n 1, 1) := by decide +kernel
theorem dX6_way_2 : decode cX6_way 2 = .ok (.iload_n 2, 1) := by decide +kernel
theorem dX6_way_3 : decode cX6_way 3 = .ok (.invokevirtual 126, 3) := by decide +kernel
theorem dX6_way_6 : decode cX6_way 6 = .ok (.ifCond .eq 7, 3) := by decide +kernel
theorem dX6_way_9 : decode cX6_way 9 = .ok (.iload_n 3, 1) := by decide +kernel
theorem dX6_way_10 : decode cX6_way 10 = .ok (.ifCond .ge 10, 3) := by decide +kernel
theorem dX6_way_13 : decode cX6_way 13 = .ok (.aload_n 0, 1) := by decide +kernel
theorem dX6_way_14 : decode cX6_way 14 = .ok (.bipush (-2), 2) := by decide +kernel
theorem dX6_way_16 : decode cX6_way 16 = .ok (.invokevirtual 100, 3) := by decide +kernel
theorem dX6_way_19 : decode cX6_way 19 = .ok (.ireturn, 1) := by decide +kernel
theorem dX6_way_20 : decode cX6_way 20 = .ok (.iload_n 1, 1) := by decide +kernel
theorem dX6_way_21 : decode cX6_way 21 = .ok (.iconst 2, 1) := by decide +kernel
theorem dX6_way_22 : decode cX6_way 22 = .ok (.imul, 1) := by decide +kernel
theorem dX6_way_23 : decode cX6_way 23 = .ok (.iload_n 2, 1) := by decide +kernel
theorem dX6_way_24 : decode cX6_way 24 = .ok (.iadd, 1) := by decide +kernel
theorem dX6_way_25 : decode cX6_way 25 = .ok (.istore 4, 2) := by decide +kernel
theorem dX6_way_27 : decode cX6_way 27 = .ok (.iload_n 3, 1) := by decide +kernel
theorem dX6_way_28 : decode cX6_way 28 = .ok (.aload_n 0, 1) := by decide +kernel
theorem dX6_way_29 : decode cX6_way 29 = .ok (.getfield 39, 3) := by decide +kernel
theorem dX6_way_32 : decode cX6_way 32 = .ok (.iload 4, 2) := by decide +kernel
theorem dX6_way_34 : decode cX6_way 34 = .ok (.invokevirtual 132, 3) := by decide +kernel
theorem dX6_way_37 : decode cX6_way 37 = .ok (.if_icmp .le 7, 3) := by decide +kernel
theorem dX6_way_40 : decode cX6_way 40 = .ok (.iconst (-1), 1) := by decide +kernel
theorem dX6_way_41 : decode cX6_way 41 = .ok (.goto 20, 3) := by decide +kernel
theorem dX6_way_44 : decode cX6_way 44 = .ok (.aload_n 0, 1) := by decide +kernel
theorem dX6_way_45 : decode cX6_way 45 = .ok (.getfield 32, 3) := by decide +kernel
theorem dX6_way_48 : decode cX6_way 48 = .ok (.aload_n 0, 1) := by decide +kernel
theorem dX6_way_49 : decode cX6_way 49 = .ok (.getfield 39, 3) := by decide +kernel
theorem dX6_way_52 : decode cX6_way 52 = .ok (.iload 4, 2) := by decide +kernel
theorem dX6_way_54 : decode cX6_way 54 = .ok (.iload_n 3, 1) := by decide +kernel
theorem dX6_way_55 : decode cX6_way 55 = .ok (.invokevirtual 135, 3) := by decide +kernel
theorem dX6_way_58 : decode cX6_way 58 = .ok (.invokevirtual 107, 3) := by decide +kernel
theorem dX6_way_61 : decode cX6_way 61 = .ok (.ireturn, 1) := by decide +kernel
theorem dX6_goalAt_0 : decode cX6_goalAt 0 = .ok (.aload_n 0, 1) := by decide +kernel
theorem dX6_goalAt_1 : decode cX6_goalAt 1 = .ok (.iload_n 1, 1) := by decide +kernel
theorem dX6_goalAt_2 : decode cX6_goalAt 2 = .ok (.iload_n 2, 1) := by decide +kernel
theorem dX6_goalAt_3 : decode cX6_goalAt 3 = .ok (.invokevirtual 126, 3) := by decide +kernel
theorem dX6_goalAt_6 : decode cX6_goalAt 6 = .ok (.ifCond .eq 7, 3) := by decide +kernel
theorem dX6_goalAt_9 : decode cX6_goalAt 9 = .ok (.iload_n 3, 1) := by decide +kernel
theorem dX6_goalAt_10 : decode cX6_goalAt 10 = .ok (.ifCond .ge 10, 3) := by decide +kernel
theorem dX6_goalAt_13 : decode cX6_goalAt 13 = .ok (.aload_n 0, 1) := by decide +kernel
theorem dX6_goalAt_14 : decode cX6_goalAt 14 = .ok (.bipush (-2), 2) := by decide +kernel
theorem dX6_goalAt_16 : decode cX6_goalAt 16 = .ok (.invokevirtual 100, 3) := by decide +kernel
theorem dX6_goalAt_19 : decode cX6_goalAt 19 = .ok (.ireturn, 1) := by decide +kernel
theorem dX6_goalAt_20 : decode cX6_goalAt 20 = .ok (.aload_n 0, 1) := by decide +kernel
theorem dX6_goalAt_21 : decode cX6_goalAt 21 = .ok (.getfield 39, 3) := by decide +kernel
theorem dX6_goalAt_24 : decode cX6_goalAt 24 = .ok (.aload_n 0, 1) := by decide +kernel
theorem dX6_goalAt_25 : decode cX6_goalAt 25 = .ok (.getfield 12, 3) := by decide +kernel
theorem dX6_goalAt_28 : decode cX6_goalAt 28 = .ok (.iload_n 1, 1) := by decide +kernel
theorem dX6_goalAt_29 : decode cX6_goalAt 29 = .ok (.iconst 2, 1) := by decide +kernel
theorem dX6_goalAt_30 : decode cX6_goalAt 30 = .ok (.imul, 1) := by decide +kernel
theorem dX6_goalAt_31 : decode cX6_goalAt 31 = .ok (.iload_n 2, 1) := by decide +kernel
theorem dX6_goalAt_32 : decode cX6_goalAt 32 = .ok (.iadd, 1) := by decide +kernel
theorem dX6_goalAt_33 : decode cX6_goalAt 33 = .ok (.iload_n 3, 1) := by decide +kernel
theorem dX6_goalAt_34 : decode cX6_goalAt 34 = .ok (.invokevirtual 138, 3) := by decide +kernel
theorem dX6_goalAt_37 : decode cX6_goalAt 37 = .ok (.istore 4, 2) := by decide +kernel
theorem dX6_goalAt_39 : decode cX6_goalAt 39 = .ok (.iload 4, 2) := by decide +kernel
theorem dX6_goalAt_41 : decode cX6_goalAt 41 = .ok (.iconst (-1), 1) := by decide +kernel
theorem dX6_goalAt_42 : decode cX6_goalAt 42 = .ok (.if_icmp .ne 7, 3) := by decide +kernel
theorem dX6_goalAt_45 : decode cX6_goalAt 45 = .ok (.iconst (-1), 1) := by decide +kernel
theorem dX6_goalAt_46 : decode cX6_goalAt 46 = .ok (.goto 12, 3) := by decide +kernel
theorem dX6_goalAt_49 : decode cX6_goalAt 49 = .ok (.aload_n 0, 1) := by decide +kernel
theorem dX6_goalAt_50 : decode cX6_goalAt 50 = .ok (.getfield 32, 3) := by decide +kernel
theorem dX6_goalAt_53 : decode cX6_goalAt 53 = .ok (.iload 4, 2) := by decide +kernel
theorem dX6_goalAt_55 : decode cX6_goalAt 55 = .ok (.invokevirtual 107, 3) := by decide +kernel
theorem dX6_goalAt_58 : decode cX6_goalAt 58 = .ok (.ireturn, 1) := by decide +kernel
theorem dX6_of_0 : decode cX6_of 0 = .ok (.aload_n 0, 1) := by decide +kernel
theorem dX6_of_1 : decode cX6_of 1 = .ok (.iload_n 1, 1) := by decide +kernel
theorem dX6_of_2 : decode cX6_of 2 = .ok (.invokevirtual 142, 3) := by decide +kernel
theorem dX6_of_5 : decode cX6_of 5 = .ok (.ifCond .eq 13, 3) := by decide +kernel
theorem dX6_of_8 : decode cX6_of 8 = .ok (.iload_n 2, 1) := by decide +kernel
theorem dX6_of_9 : decode cX6_of 9 = .ok (.ifCond .lt 9, 3) := by decide +kernel
theorem dX6_of_12 : decode cX6_of 12 = .ok (.iload_n 2, 1) := by decide +kernel
theorem dX6_of_13 : decode cX6_of 13 = .ok (.bipush 6, 2) := by decide +kernel
theorem dX6_of_15 : decode cX6_of 15 = .ok (.if_icmp .lt 10, 3) := by decide +kernel
theorem dX6_of_18 : decode cX6_of 18 = .ok (.aload_n 0, 1) := by decide +kernel
theorem dX6_of_19 : decode cX6_of 19 = .ok (.bipush (-2), 2) := by decide +kernel
theorem dX6_of_21 : decode cX6_of 21 = .ok (.invokevirtual 100, 3) := by decide +kernel
theorem dX6_of_24 : decode cX6_of 24 = .ok (.ireturn, 1) := by decide +kernel
theorem dX6_of_25 : decode cX6_of 25 = .ok (.aload_n 0, 1) := by decide +kernel
theorem dX6_of_26 : decode cX6_of 26 = .ok (.iload_n 1, 1) := by decide +kernel
theorem dX6_of_27 : decode cX6_of 27 = .ok (.iload_n 2, 1) := by decide +kernel
theorem dX6_of_28 : decode cX6_of 28 = .ok (.invokevirtual 145, 3) := by decide +kernel
theorem dX6_of_31 : decode cX6_of 31 = .ok (.ireturn, 1) := by decide +kernel
theorem dX6_when_0 : decode cX6_when 0 = .ok (.iload_n 1, 1) := by decide +kernel
theorem dX6_when_1 : decode cX6_when 1 = .ok (.iconst (-1), 1) := by decide +kernel
theorem dX6_when_2 : decode cX6_when 2 = .ok (.if_icmp .eq 11, 3) := by decide +kernel
theorem dX6_when_5 : decode cX6_when 5 = .ok (.aload_n 0, 1) := by decide +kernel
theorem dX6_when_6 : decode cX6_when 6 = .ok (.iload_n 1, 1) := by decide +kernel
theorem dX6_when_7 : decode cX6_when 7 = .ok (.invokevirtual 142, 3) := by decide +kernel
theorem dX6_when_10 : decode cX6_when 10 = .ok (.ifCond .eq 11, 3) := by decide +kernel
theorem dX6_when_13 : decode cX6_when 13 = .ok (.aload_n 0, 1) := by decide +kernel
theorem dX6_when_14 : decode cX6_when 14 = .ok (.iload_n 1, 1) := by decide +kernel
theorem dX6_when_15 : decode cX6_when 15 = .ok (.invokevirtual 148, 3) := by decide +kernel
theorem dX6_when_18 : decode cX6_when 18 = .ok (.goto 9, 3) := by decide +kernel
theorem dX6_when_21 : decode cX6_when 21 = .ok (.aload_n 0, 1) := by decide +kernel
theorem dX6_when_22 : decode cX6_when 22 = .ok (.bipush (-2), 2) := by decide +kernel
theorem dX6_when_24 : decode cX6_when 24 = .ok (.invokevirtual 100, 3) := by decide +kernel
theorem dX6_when_27 : decode cX6_when 27 = .ok (.ireturn, 1) := by decide +kernel
theorem dX6_count_0 : decode cX6_count 0 = .ok (.iload_n 1, 1) := by decide +kernel
theorem dX6_count_1 : decode cX6_count 1 = .ok (.ifCond .lt 9, 3) := by decide +kernel
theorem dX6_count_4 : decode cX6_count 4 = .ok (.iload_n 1, 1) := by decide +kernel
theorem dX6_count_5 : decode cX6_count 5 = .ok (.bipush 8, 2) := by decide +kernel
theorem dX6_count_7 : decode cX6_count 7 = .ok (.if_icmp .lt 12, 3) := by decide +kernel
theorem dX6_count_10 : decode cX6_count 10 = .ok (.aload_n 0, 1) := by decide +kernel
theorem dX6_count_11 : decode cX6_count 11 = .ok (.bipush (-2), 2) := by decide +kernel
theorem dX6_count_13 : decode cX6_count 13 = .ok (.invokevirtual 100, 3) := by decide +kernel
theorem dX6_count_16 : decode cX6_count 16 = .ok (.goto 8, 3) := by decide +kernel
theorem dX6_count_19 : decode cX6_count 19 = .ok (.aload_n 0, 1) := by decide +kernel
theorem dX6_count_20 : decode cX6_count 20 = .ok (.iload_n 1, 1) := by decide +kernel
theorem dX6_count_21 : decode cX6_count 21 = .ok (.invokevirtual 151, 3) := by decide +kernel
theorem dX6_count_24 : decode cX6_count 24 = .ok (.ireturn, 1) := by decide +kernel
theorem dX6_type_0 : decode cX6_type 0 = .ok (.iload_n 1, 1) := by decide +kernel
theorem dX6_type_1 : decode cX6_type 1 = .ok (.ifCond .lt 9, 3) := by decide +kernel
theorem dX6_type_4 : decode cX6_type 4 = .ok (.iload_n 1, 1) := by decide +kernel
theorem dX6_type_5 : decode cX6_type 5 = .ok (.bipush 127, 2) := by decide +kernel
theorem dX6_type_7 : decode cX6_type 7 = .ok (.if_icmp .le 10, 3) := by decide +kernel
theorem dX6_type_10 : decode cX6_type 10 = .ok (.aload_n 0, 1) := by decide +kernel
theorem dX6_type_11 : decode cX6_type 11 = .ok (.bipush (-2), 2) := by decide +kernel
theorem dX6_type_13 : decode cX6_type 13 = .ok (.invokevirtual 100, 3) := by decide +kernel
theorem dX6_type_16 : decode cX6_type 16 = .ok (.ireturn, 1) := by decide +kernel
theorem dX6_type_17 : decode cX6_type 17 = .ok (.aload_n 0, 1) := by decide +kernel
theorem dX6_type_18 : decode cX6_type 18 = .ok (.getfield 53, 3) := by decide +kernel
theorem dX6_type_21 : decode cX6_type 21 = .ok (.iload_n 1, 1) := by decide +kernel
theorem dX6_type_22 : decode cX6_type 22 = .ok (.invokevirtual 154, 3) := by decide +kernel
theorem dX6_type_25 : decode cX6_type 25 = .ok (.ifCond .eq 13, 3) := by decide +kernel
theorem dX6_type_28 : decode cX6_type 28 = .ok (.aload_n 0, 1) := by decide +kernel
theorem dX6_type_29 : decode cX6_type 29 = .ok (.getfield 53, 3) := by decide +kernel
theorem dX6_type_32 : decode cX6_type 32 = .ok (.invokevirtual 157, 3) := by decide +kernel
theorem dX6_type_35 : decode cX6_type 35 = .ok (.goto 9, 3) := by decide +kernel
theorem dX6_type_38 : decode cX6_type 38 = .ok (.aload_n 0, 1) := by decide +kernel
theorem dX6_type_39 : decode cX6_type 39 = .ok (.bipush (-4), 2) := by decide +kernel
theorem dX6_type_41 : decode cX6_type 41 = .ok (.invokevirtual 100, 3) := by decide +kernel
theorem dX6_type_44 : decode cX6_type 44 = .ok (.ireturn, 1) := by decide +kernel
theorem dX6_clear_0 : decode cX6_clear 0 = .ok (.aload_n 0, 1) := by decide +kernel
theorem dX6_clear_1 : decode cX6_clear 1 = .ok (.getfield 53, 3) := by decide +kernel
theorem dX6_clear_4 : decode cX6_clear 4 = .ok (.invokevirtual 160, 3) := by decide +kernel
theorem dX6_clear_7 : decode cX6_clear 7 = .ok (.ireturn, 1) := by decide +kernel
theorem dX6_does_0 : decode cX6_does 0 = .ok (.aload_n 0, 1) := by decide +kernel
theorem dX6_does_1 : decode cX6_does 1 = .ok (.getfield 53, 3) := by decide +kernel
theorem dX6_does_4 : decode cX6_does 4 = .ok (.invokevirtual 163, 3) := by decide +kernel
theorem dX6_does_7 : decode cX6_does 7 = .ok (.istore_n 1, 1) := by decide +kernel
theorem dX6_does_8 : decode cX6_does 8 = .ok (.iload_n 1, 1) := by decide +kernel
theorem dX6_does_9 : decode cX6_does 9 = .ok (.iconst (-1), 1) := by decide +kernel
theorem dX6_does_10 : decode cX6_does 10 = .ok (.if_icmp .eq 8, 3) := by decide +kernel
theorem dX6_does_13 : decode cX6_does 13 = .ok (.bipush (-10), 2) := by decide +kernel
theorem dX6_does_15 : decode cX6_does 15 = .ok (.iload_n 1, 1) := by decide +kernel
theorem dX6_does_16 : decode cX6_does 16 = .ok (.isub, 1) := by decide +kernel
theorem dX6_does_17 : decode cX6_does 17 = .ok (.ireturn, 1) := by decide +kernel
theorem dX6_does_18 : decode cX6_does 18 = .ok (.aload_n 0, 1) := by decide +kernel
theorem dX6_does_19 : decode cX6_does 19 = .ok (.getfield 16, 3) := by decide +kernel
theorem dX6_does_22 : decode cX6_does 22 = .ok (.aload_n 0, 1) := by decide +kernel
theorem dX6_does_23 : decode cX6_does 23 = .ok (.getfield 12, 3) := by decide +kernel
theorem dX6_does_26 : decode cX6_does 26 = .ok (.invokevirtual 64, 3) := by decide +kernel
theorem dX6_does_29 : decode cX6_does 29 = .ok (.iconst 0, 1) := by decide +kernel
theorem dX6_does_30 : decode cX6_does 30 = .ok (.istore_n 2, 1) := by decide +kernel
theorem dX6_does_31 : decode cX6_does 31 = .ok (.iload_n 2, 1) := by decide +kernel
theorem dX6_does_32 : decode cX6_does 32 = .ok (.aload_n 0, 1) := by decide +kernel
theorem dX6_does_33 : decode cX6_does 33 = .ok (.getfield 53, 3) := by decide +kernel
theorem dX6_does_36 : decode cX6_does 36 = .ok (.invokevirtual 166, 3) := by decide +kernel
theorem dX6_does_39 : decode cX6_does 39 = .ok (.if_icmp .ge 74, 3) := by decide +kernel
theorem dX6_does_42 : decode cX6_does 42 = .ok (.aload_n 0, 1) := by decide +kernel
theorem dX6_does_43 : decode cX6_does 43 = .ok (.aload_n 0, 1) := by decide +kernel
theorem dX6_does_44 : decode cX6_does 44 = .ok (.getfield 53, 3) := by decide +kernel
theorem dX6_does_47 : decode cX6_does 47 = .ok (.iload_n 2, 1) := by decide +kernel
theorem dX6_does_48 : decode cX6_does 48 = .ok (.invokevirtual 169, 3) := by decide +kernel
theorem dX6_does_51 : decode cX6_does 51 = .ok (.aload_n 0, 1) := by decide +kernel
theorem dX6_does_52 : decode cX6_does 52 = .ok (.getfield 53, 3) := by decide +kernel
theorem dX6_does_55 : decode cX6_does 55 = .ok (.iload_n 2, 1) := by decide +kernel
theorem dX6_does_56 : decode cX6_does 56 = .ok (.iconst 0, 1) := by decide +kernel
theorem dX6_does_57 : decode cX6_does 57 = .ok (.invokevirtual 172, 3) := by decide +kernel
theorem dX6_does_60 : decode cX6_does 60 = .ok (.aload_n 0, 1) := by decide +kernel
theorem dX6_does_61 : decode cX6_does 61 = .ok (.getfield 53, 3) := by decide +kernel
theorem dX6_does_64 : decode cX6_does 64 = .ok (.iload_n 2, 1) := by decide +kernel
theorem dX6_does_65 : decode cX6_does 65 = .ok (.iconst 1, 1) := by decide +kernel
theorem dX6_does_66 : decode cX6_does 66 = .ok (.invokevirtual 172, 3) := by decide +kernel
theorem dX6_does_69 : decode cX6_does 69 = .ok (.aload_n 0, 1) := by decide +kernel
theorem dX6_does_70 : decode cX6_does 70 = .ok (.getfield 53, 3) := by decide +kernel
theorem dX6_does_73 : decode cX6_does 73 = .ok (.iload_n 2, 1) := by decide +kernel
theorem dX6_does_74 : decode cX6_does 74 = .ok (.iconst 2, 1) := by decide +kernel
theorem dX6_does_75 : decode cX6_does 75 = .ok (.invokevirtual 172, 3) := by decide +kernel
theorem dX6_does_78 : decode cX6_does 78 = .ok (.invokevirtual 175, 3) := by decide +kernel
theorem dX6_does_81 : decode cX6_does 81 = .ok (.istore_n 3, 1) := by decide +kernel
theorem dX6_does_82 : decode cX6_does 82 = .ok (.iload_n 3, 1) := by decide +kernel
theorem dX6_does_83 : decode cX6_does 83 = .ok (.ifCond .ge 24, 3) := by decide +kernel
theorem dX6_does_86 : decode cX6_does 86 = .ok (.aload_n 0, 1) := by decide +kernel
theorem dX6_does_87 : decode cX6_does 87 = .ok (.getfield 12, 3) := by decide +kernel
theorem dX6_does_90 : decode cX6_does 90 = .ok (.aload_n 0, 1) := by decide +kernel
theorem dX6_does_91 : decode cX6_does 91 = .ok (.getfield 16, 3) := by decide +kernel
theorem dX6_does_94 : decode cX6_does 94 = .ok (.invokevirtual 64, 3) := by decide +kernel
theorem dX6_does_97 : decode cX6_does 97 = .ok (.aload_n 0, 1) := by decide +kernel
theorem dX6_does_98 : decode cX6_does 98 = .ok (.invokevirtual 179, 3) := by decide +kernel
theorem dX6_does_101 : decode cX6_does 101 = .ok (.sipush (-1000), 3) := by decide +kernel
theorem dX6_does_104 : decode cX6_does 104 = .ok (.iload_n 2, 1) := by decide +kernel
theorem dX6_does_105 : decode cX6_does 105 = .ok (.isub, 1) := by decide +kernel
theorem dX6_does_106 : decode cX6_does 106 = .ok (.ireturn, 1) := by decide +kernel
theorem dX6_does_107 : decode cX6_does 107 = .ok (.iinc 2 1, 3) := by decide +kernel
theorem dX6_does_110 : decode cX6_does 110 = .ok (.goto (-79), 3) := by decide +kernel
theorem dX6_does_113 : decode cX6_does 113 = .ok (.aload_n 0, 1) := by decide +kernel
theorem dX6_does_114 : decode cX6_does 114 = .ok (.getfield 25, 3) := by decide +kernel
theorem dX6_does_117 : decode cX6_does 117 = .ok (.aload_n 0, 1) := by decide +kernel
theorem dX6_does_118 : decode cX6_does 118 = .ok (.getfield 16, 3) := by decide +kernel
theorem dX6_does_121 : decode cX6_does 121 = .ok (.invokevirtual 182, 3) := by decide +kernel
theorem dX6_does_124 : decode cX6_does 124 = .ok (.aload_n 0, 1) := by decide +kernel
theorem dX6_does_125 : decode cX6_does 125 = .ok (.getfield 53, 3) := by decide +kernel
theorem dX6_does_128 : decode cX6_does 128 = .ok (.invokevirtual 166, 3) := by decide +kernel
theorem dX6_does_131 : decode cX6_does 131 = .ok (.ireturn, 1) := by decide +kernel
theorem dX6_back_0 : decode cX6_back 0 = .ok (.aload_n 0, 1) := by decide +kernel
theorem dX6_back_1 : decode cX6_back 1 = .ok (.getfield 25, 3) := by decide +kernel
theorem dX6_back_4 : decode cX6_back 4 = .ok (.aload_n 0, 1) := by decide +kernel
theorem dX6_back_5 : decode cX6_back 5 = .ok (.getfield 12, 3) := by decide +kernel
theorem dX6_back_8 : decode cX6_back 8 = .ok (.invokevirtual 185, 3) := by decide +kernel
theorem dX6_back_11 : decode cX6_back 11 = .ok (.ifCond .ne 10, 3) := by decide +kernel
theorem dX6_back_14 : decode cX6_back 14 = .ok (.aload_n 0, 1) := by decide +kernel
theorem dX6_back_15 : decode cX6_back 15 = .ok (.bipush (-3), 2) := by decide +kernel
theorem dX6_back_17 : decode cX6_back 17 = .ok (.invokevirtual 100, 3) := by decide +kernel
theorem dX6_back_20 : decode cX6_back 20 = .ok (.ireturn, 1) := by decide +kernel
theorem dX6_back_21 : decode cX6_back 21 = .ok (.aload_n 0, 1) := by decide +kernel
theorem dX6_back_22 : decode cX6_back 22 = .ok (.invokevirtual 179, 3) := by decide +kernel
theorem dX6_back_25 : decode cX6_back 25 = .ok (.aload_n 0, 1) := by decide +kernel
theorem dX6_back_26 : decode cX6_back 26 = .ok (.getfield 25, 3) := by decide +kernel
theorem dX6_back_29 : decode cX6_back 29 = .ok (.invokevirtual 189, 3) := by decide +kernel
theorem dX6_back_32 : decode cX6_back 32 = .ok (.ireturn, 1) := by decide +kernel
theorem dX6_told_0 : decode cX6_told 0 = .ok (.iload_n 1, 1) := by decide +kernel
theorem dX6_told_1 : decode cX6_told 1 = .ok (.ifCond .lt 8, 3) := by decide +kernel
theorem dX6_told_4 : decode cX6_told 4 = .ok (.iload_n 1, 1) := by decide +kernel
theorem dX6_told_5 : decode cX6_told 5 = .ok (.iconst 5, 1) := by decide +kernel
theorem dX6_told_6 : decode cX6_told 6 = .ok (.if_icmp .lt 12, 3) := by decide +kernel
theorem dX6_told_9 : decode cX6_told 9 = .ok (.aload_n 0, 1) := by decide +kernel
theorem dX6_told_10 : decode cX6_told 10 = .ok (.bipush (-2), 2) := by decide +kernel
theorem dX6_told_12 : decode cX6_told 12 = .ok (.invokevirtual 100, 3) := by decide +kernel
theorem dX6_told_15 : decode cX6_told 15 = .ok (.goto 8, 3) := by decide +kernel
theorem dX6_told_18 : decode cX6_told 18 = .ok (.aload_n 0, 1) := by decide +kernel
theorem dX6_told_19 : decode cX6_told 19 = .ok (.iload_n 1, 1) := by decide +kernel
theorem dX6_told_20 : decode cX6_told 20 = .ok (.invokevirtual 190, 3) := by decide +kernel
theorem dX6_told_23 : decode cX6_told 23 = .ok (.ireturn, 1) := by decide +kernel
theorem dX6_digest_0 : decode cX6_digest 0 = .ok (.ldc2_w 193, 3) := by decide +kernel
theorem dX6_digest_3 : decode cX6_digest 3 = .ok (.lstore_n 1, 1) := by decide +kernel
theorem dX6_digest_4 : decode cX6_digest 4 = .ok (.iconst 0, 1) := by decide +kernel
theorem dX6_digest_5 : decode cX6_digest 5 = .ok (.istore_n 3, 1) := by decide +kernel
theorem dX6_digest_6 : decode cX6_digest 6 = .ok (.iload_n 3, 1) := by decide +kernel
theorem dX6_digest_7 : decode cX6_digest 7 = .ok (.iconst 5, 1) := by decide +kernel
theorem dX6_digest_8 : decode cX6_digest 8 = .ok (.if_icmp .ge 22, 3) := by decide +kernel
theorem dX6_digest_11 : decode cX6_digest 11 = .ok (.ldc2_w 195, 3) := by decide +kernel
theorem dX6_digest_14 : decode cX6_digest 14 = .ok (.lload_n 1, 1) := by decide +kernel
theorem dX6_digest_15 : decode cX6_digest 15 = .ok (.lmul, 1) := by decide +kernel
theorem dX6_digest_16 : decode cX6_digest 16 = .ok (.aload_n 0, 1) := by decide +kernel
theorem dX6_digest_17 : decode cX6_digest 17 = .ok (.iload_n 3, 1) := by decide +kernel
theorem dX6_digest_18 : decode cX6_digest 18 = .ok (.invokevirtual 190, 3) := by decide +kernel
theorem dX6_digest_21 : decode cX6_digest 21 = .ok (.i2l, 1) := by decide +kernel
theorem dX6_digest_22 : decode cX6_digest 22 = .ok (.ladd, 1) := by decide +kernel
theorem dX6_digest_23 : decode cX6_digest 23 = .ok (.lstore_n 1, 1) := by decide +kernel
theorem dX6_digest_24 : decode cX6_digest 24 = .ok (.iinc 3 1, 3) := by decide +kernel
theorem dX6_digest_27 : decode cX6_digest 27 = .ok (.goto (-21), 3) := by decide +kernel
theorem dX6_digest_30 : decode cX6_digest 30 = .ok (.iconst 0, 1) := by decide +kernel
theorem dX6_digest_31 : decode cX6_digest 31 = .ok (.istore_n 3, 1) := by decide +kernel
theorem dX6_digest_32 : decode cX6_digest 32 = .ok (.iload_n 3, 1) := by decide +kernel
theorem dX6_digest_33 : decode cX6_digest 33 = .ok (.bipush 8, 2) := by decide +kernel
theorem dX6_digest_35 : decode cX6_digest 35 = .ok (.if_icmp .ge 22, 3) := by decide +kernel
theorem dX6_digest_38 : decode cX6_digest 38 = .ok (.ldc2_w 195, 3) := by decide +kernel
theorem dX6_digest_41 : decode cX6_digest 41 = .ok (.lload_n 1, 1) := by decide +kernel
theorem dX6_digest_42 : decode cX6_digest 42 = .ok (.lmul, 1) := by decide +kernel
theorem dX6_digest_43 : decode cX6_digest 43 = .ok (.aload_n 0, 1) := by decide +kernel
theorem dX6_digest_44 : decode cX6_digest 44 = .ok (.iload_n 3, 1) := by decide +kernel
theorem dX6_digest_45 : decode cX6_digest 45 = .ok (.invokevirtual 151, 3) := by decide +kernel
theorem dX6_digest_48 : decode cX6_digest 48 = .ok (.i2l, 1) := by decide +kernel
theorem dX6_digest_49 : decode cX6_digest 49 = .ok (.ladd, 1) := by decide +kernel
theorem dX6_digest_50 : decode cX6_digest 50 = .ok (.lstore_n 1, 1) := by decide +kernel
theorem dX6_digest_51 : decode cX6_digest 51 = .ok (.iinc 3 1, 3) := by decide +kernel
theorem dX6_digest_54 : decode cX6_digest 54 = .ok (.goto (-22), 3) := by decide +kernel
theorem dX6_digest_57 : decode cX6_digest 57 = .ok (.iconst 0, 1) := by decide +kernel
theorem dX6_digest_58 : decode cX6_digest 58 = .ok (.istore_n 3, 1) := by decide +kernel
theorem dX6_digest_59 : decode cX6_digest 59 = .ok (.iload_n 3, 1) := by decide +kernel
theorem dX6_digest_60 : decode cX6_digest 60 = .ok (.aload_n 0, 1) := by decide +kernel
theorem dX6_digest_61 : decode cX6_digest 61 = .ok (.getfield 32, 3) := by decide +kernel
theorem dX6_digest_64 : decode cX6_digest 64 = .ok (.invokevirtual 197, 3) := by decide +kernel
theorem dX6_digest_67 : decode cX6_digest 67 = .ok (.iconst 4, 1) := by decide +kernel
theorem dX6_digest_68 : decode cX6_digest 68 = .ok (.imul, 1) := by decide +kernel
theorem dX6_digest_69 : decode cX6_digest 69 = .ok (.if_icmp .ge 33, 3) := by decide +kernel
theorem dX6_digest_72 : decode cX6_digest 72 = .ok (.ldc2_w 195, 3) := by decide +kernel
theorem dX6_digest_75 : decode cX6_digest 75 = .ok (.lload_n 1, 1) := by decide +kernel
theorem dX6_digest_76 : decode cX6_digest 76 = .ok (.lmul, 1) := by decide +kernel
theorem dX6_digest_77 : decode cX6_digest 77 = .ok (.aload_n 0, 1) := by decide +kernel
theorem dX6_digest_78 : decode cX6_digest 78 = .ok (.getfield 12, 3) := by decide +kernel
theorem dX6_digest_81 : decode cX6_digest 81 = .ok (.iload_n 3, 1) := by decide +kernel
theorem dX6_digest_82 : decode cX6_digest 82 = .ok (.invokevirtual 200, 3) := by decide +kernel
theorem dX6_digest_85 : decode cX6_digest 85 = .ok (.ifCond .eq 7, 3) := by decide +kernel
theorem dX6_digest_88 : decode cX6_digest 88 = .ok (.iconst 1, 1) := by decide +kernel
theorem dX6_digest_89 : decode cX6_digest 89 = .ok (.goto 4, 3) := by decide +kernel
theorem dX6_digest_92 : decode cX6_digest 92 = .ok (.iconst 0, 1) := by decide +kernel
theorem dX6_digest_93 : decode cX6_digest 93 = .ok (.i2l, 1) := by decide +kernel
theorem dX6_digest_94 : decode cX6_digest 94 = .ok (.ladd, 1) := by decide +kernel
theorem dX6_digest_95 : decode cX6_digest 95 = .ok (.lstore_n 1, 1) := by decide +kernel
theorem dX6_digest_96 : decode cX6_digest 96 = .ok (.iinc 3 1, 3) := by decide +kernel
theorem dX6_digest_99 : decode cX6_digest 99 = .ok (.goto (-40), 3) := by decide +kernel
theorem dX6_digest_102 : decode cX6_digest 102 = .ok (.iconst 0, 1) := by decide +kernel
theorem dX6_digest_103 : decode cX6_digest 103 = .ok (.istore_n 3, 1) := by decide +kernel
theorem dX6_digest_104 : decode cX6_digest 104 = .ok (.iload_n 3, 1) := by decide +kernel
theorem dX6_digest_105 : decode cX6_digest 105 = .ok (.aload_n 0, 1) := by decide +kernel
theorem dX6_digest_106 : decode cX6_digest 106 = .ok (.getfield 12, 3) := by decide +kernel
theorem dX6_digest_109 : decode cX6_digest 109 = .ok (.getfield 203, 3) := by decide +kernel
theorem dX6_digest_112 : decode cX6_digest 112 = .ok (.if_icmp .ge 16, 3) := by decide +kernel
theorem dX6_digest_115 : decode cX6_digest 115 = .ok (.aload_n 0, 1) := by decide +kernel
theorem dX6_digest_116 : decode cX6_digest 116 = .ok (.lload_n 1, 1) := by decide +kernel
theorem dX6_digest_117 : decode cX6_digest 117 = .ok (.iload_n 3, 1) := by decide +kernel
theorem dX6_digest_118 : decode cX6_digest 118 = .ok (.invokevirtual 207, 3) := by decide +kernel
theorem dX6_digest_121 : decode cX6_digest 121 = .ok (.lstore_n 1, 1) := by decide +kernel
theorem dX6_digest_122 : decode cX6_digest 122 = .ok (.iinc 3 1, 3) := by decide +kernel
theorem dX6_digest_125 : decode cX6_digest 125 = .ok (.goto (-21), 3) := by decide +kernel
theorem dX6_digest_128 : decode cX6_digest 128 = .ok (.ldc2_w 195, 3) := by decide +kernel
theorem dX6_digest_131 : decode cX6_digest 131 = .ok (.lload_n 1, 1) := by decide +kernel
theorem dX6_digest_132 : decode cX6_digest 132 = .ok (.lmul, 1) := by decide +kernel
theorem dX6_digest_133 : decode cX6_digest 133 = .ok (.aload_n 0, 1) := by decide +kernel
theorem dX6_digest_134 : decode cX6_digest 134 = .ok (.iconst (-1), 1) := by decide +kernel
theorem dX6_digest_135 : decode cX6_digest 135 = .ok (.invokevirtual 148, 3) := by decide +kernel
theorem dX6_digest_138 : decode cX6_digest 138 = .ok (.i2l, 1) := by decide +kernel
theorem dX6_digest_139 : decode cX6_digest 139 = .ok (.ladd, 1) := by decide +kernel
theorem dX6_digest_140 : decode cX6_digest 140 = .ok (.lreturn, 1) := by decide +kernel
theorem dX6_digestMessage_0 : decode cX6_digestMessage 0 = .ok (.lload_n 1, 1) := by decide +kernel
theorem dX6_digestMessage_1 : decode cX6_digestMessage 1 = .ok (.lstore 4, 2) := by decide +kernel
theorem dX6_digestMessage_3 : decode cX6_digestMessage 3 = .ok (.iconst 0, 1) := by decide +kernel
theorem dX6_digestMessage_4 : decode cX6_digestMessage 4 = .ok (.istore 6, 2) := by decide +kernel
theorem dX6_digestMessage_6 : decode cX6_digestMessage 6 = .ok (.iload 6, 2) := by decide +kernel
theorem dX6_digestMessage_8 : decode cX6_digestMessage 8 = .ok (.bipush 6, 2) := by decide +kernel
theorem dX6_digestMessage_10 : decode cX6_digestMessage 10 = .ok (.if_icmp .ge 26, 3) := by decide +kernel
theorem dX6_digestMessage_13 : decode cX6_digestMessage 13 = .ok (.ldc2_w 195, 3) := by decide +kernel
theorem dX6_digestMessage_16 : decode cX6_digestMessage 16 = .ok (.lload 4, 2) := by decide +kernel
theorem dX6_digestMessage_18 : decode cX6_digestMessage 18 = .ok (.lmul, 1) := by decide +kernel
theorem dX6_digestMessage_19 : decode cX6_digestMessage 19 = .ok (.aload_n 0, 1) := by decide +kernel
theorem dX6_digestMessage_20 : decode cX6_digestMessage 20 = .ok (.iload_n 3, 1) := by decide +kernel
theorem dX6_digestMessage_21 : decode cX6_digestMessage 21 = .ok (.iload 6, 2) := by decide +kernel
theorem dX6_digestMessage_23 : decode cX6_digestMessage 23 = .ok (.invokevirtual 145, 3) := by decide +kernel
theorem dX6_digestMessage_26 : decode cX6_digestMessage 26 = .ok (.i2l, 1) := by decide +kernel
theorem dX6_digestMessage_27 : decode cX6_digestMessage 27 = .ok (.ladd, 1) := by decide +kernel
theorem dX6_digestMessage_28 : decode cX6_digestMessage 28 = .ok (.lstore 4, 2) := by decide +kernel
theorem dX6_digestMessage_30 : decode cX6_digestMessage 30 = .ok (.iinc 6 1, 3) := by decide +kernel
theorem dX6_digestMessage_33 : decode cX6_digestMessage 33 = .ok (.goto (-27), 3) := by decide +kernel
theorem dX6_digestMessage_36 : decode cX6_digestMessage 36 = .ok (.iload_n 3, 1) := by decide +kernel
theorem dX6_digestMessage_37 : decode cX6_digestMessage 37 = .ok (.iconst 2, 1) := by decide +kernel
theorem dX6_digestMessage_38 : decode cX6_digestMessage 38 = .ok (.imul, 1) := by decide +kernel
theorem dX6_digestMessage_39 : decode cX6_digestMessage 39 = .ok (.istore 6, 2) := by decide +kernel
theorem dX6_digestMessage_41 : decode cX6_digestMessage 41 = .ok (.iload 6, 2) := by decide +kernel
theorem dX6_digestMessage_43 : decode cX6_digestMessage 43 = .ok (.iload_n 3, 1) := by decide +kernel
theorem dX6_digestMessage_44 : decode cX6_digestMessage 44 = .ok (.iconst 2, 1) := by decide +kernel
theorem dX6_digestMessage_45 : decode cX6_digestMessage 45 = .ok (.imul, 1) := by decide +kernel
theorem dX6_digestMessage_46 : decode cX6_digestMessage 46 = .ok (.iconst 2, 1) := by decide +kernel
theorem dX6_digestMessage_47 : decode cX6_digestMessage 47 = .ok (.iadd, 1) := by decide +kernel
theorem dX6_digestMessage_48 : decode cX6_digestMessage 48 = .ok (.if_icmp .ge 94, 3) := by decide +kernel
theorem dX6_digestMessage_51 : decode cX6_digestMessage 51 = .ok (.iconst 0, 1) := by decide +kernel
theorem dX6_digestMessage_52 : decode cX6_digestMessage 52 = .ok (.istore 7, 2) := by decide +kernel
theorem dX6_digestMessage_54 : decode cX6_digestMessage 54 = .ok (.iload 7, 2) := by decide +kernel
theorem dX6_digestMessage_56 : decode cX6_digestMessage 56 = .ok (.bipush 9, 2) := by decide +kernel
theorem dX6_digestMessage_58 : decode cX6_digestMessage 58 = .ok (.if_icmp .ge 27, 3) := by decide +kernel
theorem dX6_digestMessage_61 : decode cX6_digestMessage 61 = .ok (.ldc2_w 195, 3) := by decide +kernel
theorem dX6_digestMessage_64 : decode cX6_digestMessage 64 = .ok (.lload 4, 2) := by decide +kernel
theorem dX6_digestMessage_66 : decode cX6_digestMessage 66 = .ok (.lmul, 1) := by decide +kernel
theorem dX6_digestMessage_67 : decode cX6_digestMessage 67 = .ok (.aload_n 0, 1) := by decide +kernel
theorem dX6_digestMessage_68 : decode cX6_digestMessage 68 = .ok (.iload 6, 2) := by decide +kernel
theorem dX6_digestMessage_70 : decode cX6_digestMessage 70 = .ok (.iload 7, 2) := by decide +kernel
theorem dX6_digestMessage_72 : decode cX6_digestMessage 72 = .ok (.invokevirtual 129, 3) := by decide +kernel
theorem dX6_digestMessage_75 : decode cX6_digestMessage 75 = .ok (.i2l, 1) := by decide +kernel
theorem dX6_digestMessage_76 : decode cX6_digestMessage 76 = .ok (.ladd, 1) := by decide +kernel
theorem dX6_digestMessage_77 : decode cX6_digestMessage 77 = .ok (.lstore 4, 2) := by decide +kernel
theorem dX6_digestMessage_79 : decode cX6_digestMessage 79 = .ok (.iinc 7 1, 3) := by decide +kernel
theorem dX6_digestMessage_82 : decode cX6_digestMessage 82 = .ok (.goto (-28), 3) := by decide +kernel
theorem dX6_digestMessage_85 : decode cX6_digestMessage 85 = .ok (.iconst 0, 1) := by decide +kernel
theorem dX6_digestMessage_86 : decode cX6_digestMessage 86 = .ok (.istore 7, 2) := by decide +kernel
theorem dX6_digestMessage_88 : decode cX6_digestMessage 88 = .ok (.iload 7, 2) := by decide +kernel
theorem dX6_digestMessage_90 : decode cX6_digestMessage 90 = .ok (.aload_n 0, 1) := by decide +kernel
theorem dX6_digestMessage_91 : decode cX6_digestMessage 91 = .ok (.getfield 39, 3) := by decide +kernel
theorem dX6_digestMessage_94 : decode cX6_digestMessage 94 = .ok (.iload 6, 2) := by decide +kernel
theorem dX6_digestMessage_96 : decode cX6_digestMessage 96 = .ok (.invokevirtual 132, 3) := by decide +kernel
theorem dX6_digestMessage_99 : decode cX6_digestMessage 99 = .ok (.if_icmp .gt 37, 3) := by decide +kernel
theorem dX6_digestMessage_102 : decode cX6_digestMessage 102 = .ok (.ldc2_w 195, 3) := by decide +kernel
theorem dX6_digestMessage_105 : decode cX6_digestMessage 105 = .ok (.lload 4, 2) := by decide +kernel
theorem dX6_digestMessage_107 : decode cX6_digestMessage 107 = .ok (.lmul, 1) := by decide +kernel
theorem dX6_digestMessage_108 : decode cX6_digestMessage 108 = .ok (.aload_n 0, 1) := by decide +kernel
theorem dX6_digestMessage_109 : decode cX6_digestMessage 109 = .ok (.getfield 32, 3) := by decide +kernel
theorem dX6_digestMessage_112 : decode cX6_digestMessage 112 = .ok (.aload_n 0, 1) := by decide +kernel
theorem dX6_digestMessage_113 : decode cX6_digestMessage 113 = .ok (.getfield 39, 3) := by decide +kernel
theorem dX6_digestMessage_116 : decode cX6_digestMessage 116 = .ok (.iload 6, 2) := by decide +kernel
theorem dX6_digestMessage_118 : decode cX6_digestMessage 118 = .ok (.iload 7, 2) := by decide +kernel
theorem dX6_digestMessage_120 : decode cX6_digestMessage 120 = .ok (.invokevirtual 135, 3) := by decide +kernel
theorem dX6_digestMessage_123 : decode cX6_digestMessage 123 = .ok (.invokevirtual 107, 3) := by decide +kernel
theorem dX6_digestMessage_126 : decode cX6_digestMessage 126 = .ok (.i2l, 1) := by decide +kernel
theorem dX6_digestMessage_127 : decode cX6_digestMessage 127 = .ok (.ladd, 1) := by decide +kernel
theorem dX6_digestMessage_128 : decode cX6_digestMessage 128 = .ok (.lstore 4, 2) := by decide +kernel
theorem dX6_digestMessage_130 : decode cX6_digestMessage 130 = .ok (.iinc 7 1, 3) := by decide +kernel
theorem dX6_digestMessage_133 : decode cX6_digestMessage 133 = .ok (.goto (-45), 3) := by decide +kernel
theorem dX6_digestMessage_136 : decode cX6_digestMessage 136 = .ok (.iinc 6 1, 3) := by decide +kernel
theorem dX6_digestMessage_139 : decode cX6_digestMessage 139 = .ok (.goto (-98), 3) := by decide +kernel
theorem dX6_digestMessage_142 : decode cX6_digestMessage 142 = .ok (.lload 4, 2) := by decide +kernel
theorem dX6_digestMessage_144 : decode cX6_digestMessage 144 = .ok (.lreturn, 1) := by decide +kernel
theorem dX6_refuse_0 : decode cX6_refuse 0 = .ok (.iload_n 1, 1) := by decide +kernel
theorem dX6_refuse_1 : decode cX6_refuse 1 = .ok (.lookupswitch 53 #[(-3, 40), (-2, 27)], 27) := by decide +kernel
theorem dX6_refuse_28 : decode cX6_refuse 28 = .ok (.aload_n 0, 1) := by decide +kernel
theorem dX6_refuse_29 : decode cX6_refuse 29 = .ok (.dup, 1) := by decide +kernel
theorem dX6_refuse_30 : decode cX6_refuse 30 = .ok (.getfield 211, 3) := by decide +kernel
theorem dX6_refuse_33 : decode cX6_refuse 33 = .ok (.iconst 1, 1) := by decide +kernel
theorem dX6_refuse_34 : decode cX6_refuse 34 = .ok (.iadd, 1) := by decide +kernel
theorem dX6_refuse_35 : decode cX6_refuse 35 = .ok (.putfield 211, 3) := by decide +kernel
theorem dX6_refuse_38 : decode cX6_refuse 38 = .ok (.goto 26, 3) := by decide +kernel
theorem dX6_refuse_41 : decode cX6_refuse 41 = .ok (.aload_n 0, 1) := by decide +kernel
theorem dX6_refuse_42 : decode cX6_refuse 42 = .ok (.dup, 1) := by decide +kernel
theorem dX6_refuse_43 : decode cX6_refuse 43 = .ok (.getfield 214, 3) := by decide +kernel
theorem dX6_refuse_46 : decode cX6_refuse 46 = .ok (.iconst 1, 1) := by decide +kernel
theorem dX6_refuse_47 : decode cX6_refuse 47 = .ok (.iadd, 1) := by decide +kernel
theorem dX6_refuse_48 : decode cX6_refuse 48 = .ok (.putfield 214, 3) := by decide +kernel
theorem dX6_refuse_51 : decode cX6_refuse 51 = .ok (.goto 13, 3) := by decide +kernel
theorem dX6_refuse_54 : decode cX6_refuse 54 = .ok (.aload_n 0, 1) := by decide +kernel
theorem dX6_refuse_55 : decode cX6_refuse 55 = .ok (.dup, 1) := by decide +kernel
theorem dX6_refuse_56 : decode cX6_refuse 56 = .ok (.getfield 217, 3) := by decide +kernel
theorem dX6_refuse_59 : decode cX6_refuse 59 = .ok (.iconst 1, 1) := by decide +kernel
theorem dX6_refuse_60 : decode cX6_refuse 60 = .ok (.iadd, 1) := by decide +kernel
theorem dX6_refuse_61 : decode cX6_refuse 61 = .ok (.putfield 217, 3) := by decide +kernel
theorem dX6_refuse_64 : decode cX6_refuse 64 = .ok (.iload_n 1, 1) := by decide +kernel
theorem dX6_refuse_65 : decode cX6_refuse 65 = .ok (.ireturn, 1) := by decide +kernel
theorem dX6_settle_0 : decode cX6_settle 0 = .ok (.iload_n 1, 1) := by decide +kernel
theorem dX6_settle_1 : decode cX6_settle 1 = .ok (.ifCond .ge 9, 3) := by decide +kernel
theorem dX6_settle_4 : decode cX6_settle 4 = .ok (.aload_n 0, 1) := by decide +kernel
theorem dX6_settle_5 : decode cX6_settle 5 = .ok (.iload_n 1, 1) := by decide +kernel
theorem dX6_settle_6 : decode cX6_settle 6 = .ok (.invokevirtual 100, 3) := by decide +kernel
theorem dX6_settle_9 : decode cX6_settle 9 = .ok (.ireturn, 1) := by decide +kernel
theorem dX6_settle_10 : decode cX6_settle 10 = .ok (.aload_n 0, 1) := by decide +kernel
theorem dX6_settle_11 : decode cX6_settle 11 = .ok (.getfield 25, 3) := by decide +kernel
theorem dX6_settle_14 : decode cX6_settle 14 = .ok (.aload_n 0, 1) := by decide +kernel
theorem dX6_settle_15 : decode cX6_settle 15 = .ok (.getfield 16, 3) := by decide +kernel
theorem dX6_settle_18 : decode cX6_settle 18 = .ok (.invokevirtual 182, 3) := by decide +kernel
theorem dX6_settle_21 : decode cX6_settle 21 = .ok (.iload_n 1, 1) := by decide +kernel
theorem dX6_settle_22 : decode cX6_settle 22 = .ok (.ireturn, 1) := by decide +kernel
theorem dX6_perform_0 : decode cX6_perform 0 = .ok (.iload_n 1, 1) := by decide +kernel
theorem dX6_perform_1 : decode cX6_perform 1 = .ok (.lookupswitch 104 #[(97, 99), (103, 75), (107, 93), (109, 66), (116, 84), (119, 59)], 59) := by decide +kernel
theorem dX6_perform_60 : decode cX6_perform 60 = .ok (.aload_n 0, 1) := by decide +kernel
theorem dX6_perform_61 : decode cX6_perform 61 = .ok (.iload_n 2, 1) := by decide +kernel
theorem dX6_perform_62 : decode cX6_perform 62 = .ok (.iload_n 3, 1) := by decide +kernel
theorem dX6_perform_63 : decode cX6_perform 63 = .ok (.invokevirtual 68, 3) := by decide +kernel
theorem dX6_perform_66 : decode cX6_perform 66 = .ok (.ireturn, 1) := by decide +kernel
theorem dX6_perform_67 : decode cX6_perform 67 = .ok (.aload_n 0, 1) := by decide +kernel
theorem dX6_perform_68 : decode cX6_perform 68 = .ok (.iload_n 2, 1) := by decide +kernel
theorem dX6_perform_69 : decode cX6_perform 69 = .ok (.iload_n 3, 1) := by decide +kernel
theorem dX6_perform_70 : decode cX6_perform 70 = .ok (.iload 4, 2) := by decide +kernel
theorem dX6_perform_72 : decode cX6_perform 72 = .ok (.invokevirtual 76, 3) := by decide +kernel
theorem dX6_perform_75 : decode cX6_perform 75 = .ok (.ireturn, 1) := by decide +kernel
theorem dX6_perform_76 : decode cX6_perform 76 = .ok (.aload_n 0, 1) := by decide +kernel
theorem dX6_perform_77 : decode cX6_perform 77 = .ok (.iload_n 2, 1) := by decide +kernel
theorem dX6_perform_78 : decode cX6_perform 78 = .ok (.iload_n 3, 1) := by decide +kernel
theorem dX6_perform_79 : decode cX6_perform 79 = .ok (.iload 4, 2) := by decide +kernel
theorem dX6_perform_81 : decode cX6_perform 81 = .ok (.invokevirtual 80, 3) := by decide +kernel
theorem dX6_perform_84 : decode cX6_perform 84 = .ok (.ireturn, 1) := by decide +kernel
theorem dX6_perform_85 : decode cX6_perform 85 = .ok (.aload_n 0, 1) := by decide +kernel
theorem dX6_perform_86 : decode cX6_perform 86 = .ok (.iload_n 2, 1) := by decide +kernel
theorem dX6_perform_87 : decode cX6_perform 87 = .ok (.iload_n 3, 1) := by decide +kernel
theorem dX6_perform_88 : decode cX6_perform 88 = .ok (.iload 4, 2) := by decide +kernel
theorem dX6_perform_90 : decode cX6_perform 90 = .ok (.invokevirtual 83, 3) := by decide +kernel
theorem dX6_perform_93 : decode cX6_perform 93 = .ok (.ireturn, 1) := by decide +kernel
theorem dX6_perform_94 : decode cX6_perform 94 = .ok (.aload_n 0, 1) := by decide +kernel
theorem dX6_perform_95 : decode cX6_perform 95 = .ok (.iload_n 2, 1) := by decide +kernel
theorem dX6_perform_96 : decode cX6_perform 96 = .ok (.invokevirtual 86, 3) := by decide +kernel
theorem dX6_perform_99 : decode cX6_perform 99 = .ok (.ireturn, 1) := by decide +kernel
theorem dX6_perform_100 : decode cX6_perform 100 = .ok (.aload_n 0, 1) := by decide +kernel
theorem dX6_perform_101 : decode cX6_perform 101 = .ok (.invokevirtual 89, 3) := by decide +kernel
theorem dX6_perform_104 : decode cX6_perform 104 = .ok (.ireturn, 1) := by decide +kernel
theorem dX6_perform_105 : decode cX6_perform 105 = .ok (.bipush (-2), 2) := by decide +kernel
theorem dX6_perform_107 : decode cX6_perform 107 = .ok (.ireturn, 1) := by decide +kernel
theorem dX6_makeMesh_0 : decode cX6_makeMesh 0 = .ok (.iload_n 1, 1) := by decide +kernel
theorem dX6_makeMesh_1 : decode cX6_makeMesh 1 = .ok (.iconst 2, 1) := by decide +kernel
theorem dX6_makeMesh_2 : decode cX6_makeMesh 2 = .ok (.if_icmp .lt 20, 3) := by decide +kernel
theorem dX6_makeMesh_5 : decode cX6_makeMesh 5 = .ok (.iload_n 1, 1) := by decide +kernel
theorem dX6_makeMesh_6 : decode cX6_makeMesh 6 = .ok (.bipush 6, 2) := by decide +kernel
theorem dX6_makeMesh_8 : decode cX6_makeMesh 8 = .ok (.if_icmp .gt 14, 3) := by decide +kernel
theorem dX6_makeMesh_11 : decode cX6_makeMesh 11 = .ok (.iload_n 2, 1) := by decide +kernel
theorem dX6_makeMesh_12 : decode cX6_makeMesh 12 = .ok (.iconst 2, 1) := by decide +kernel
theorem dX6_makeMesh_13 : decode cX6_makeMesh 13 = .ok (.if_icmp .lt 9, 3) := by decide +kernel
theorem dX6_makeMesh_16 : decode cX6_makeMesh 16 = .ok (.iload_n 2, 1) := by decide +kernel
theorem dX6_makeMesh_17 : decode cX6_makeMesh 17 = .ok (.bipush 6, 2) := by decide +kernel
theorem dX6_makeMesh_19 : decode cX6_makeMesh 19 = .ok (.if_icmp .le 6, 3) := by decide +kernel
theorem dX6_makeMesh_22 : decode cX6_makeMesh 22 = .ok (.bipush (-2), 2) := by decide +kernel
theorem dX6_makeMesh_24 : decode cX6_makeMesh 24 = .ok (.ireturn, 1) := by decide +kernel
theorem dX6_makeMesh_25 : decode cX6_makeMesh 25 = .ok (.aload_n 0, 1) := by decide +kernel
theorem dX6_makeMesh_26 : decode cX6_makeMesh 26 = .ok (.getfield 32, 3) := by decide +kernel
theorem dX6_makeMesh_29 : decode cX6_makeMesh 29 = .ok (.invokevirtual 197, 3) := by decide +kernel
theorem dX6_makeMesh_32 : decode cX6_makeMesh 32 = .ok (.istore_n 3, 1) := by decide +kernel
theorem dX6_makeMesh_33 : decode cX6_makeMesh 33 = .ok (.aload_n 0, 1) := by decide +kernel
theorem dX6_makeMesh_34 : decode cX6_makeMesh 34 = .ok (.getfield 12, 3) := by decide +kernel
theorem dX6_makeMesh_37 : decode cX6_makeMesh 37 = .ok (.iload_n 1, 1) := by decide +kernel
theorem dX6_makeMesh_38 : decode cX6_makeMesh 38 = .ok (.iload_n 2, 1) := by decide +kernel
theorem dX6_makeMesh_39 : decode cX6_makeMesh 39 = .ok (.invokevirtual 57, 3) := by decide +kernel
theorem dX6_makeMesh_42 : decode cX6_makeMesh 42 = .ok (.aload_n 0, 1) := by decide +kernel
theorem dX6_makeMesh_43 : decode cX6_makeMesh 43 = .ok (.getfield 32, 3) := by decide +kernel
theorem dX6_makeMesh_46 : decode cX6_makeMesh 46 = .ok (.iload_n 1, 1) := by decide +kernel
theorem dX6_makeMesh_47 : decode cX6_makeMesh 47 = .ok (.iload_n 2, 1) := by decide +kernel
theorem dX6_makeMesh_48 : decode cX6_makeMesh 48 = .ok (.invokevirtual 61, 3) := by decide +kernel
theorem dX6_makeMesh_51 : decode cX6_makeMesh 51 = .ok (.iload_n 3, 1) := by decide +kernel
theorem dX6_makeMesh_52 : decode cX6_makeMesh 52 = .ok (.ireturn, 1) := by decide +kernel
theorem dX6_addMessage_0 : decode cX6_addMessage 0 = .ok (.aload_n 0, 1) := by decide +kernel
theorem dX6_addMessage_1 : decode cX6_addMessage 1 = .ok (.getfield 32, 3) := by decide +kernel
theorem dX6_addMessage_4 : decode cX6_addMessage 4 = .ok (.iload_n 1, 1) := by decide +kernel
theorem dX6_addMessage_5 : decode cX6_addMessage 5 = .ok (.iload_n 2, 1) := by decide +kernel
theorem dX6_addMessage_6 : decode cX6_addMessage 6 = .ok (.invokevirtual 93, 3) := by decide +kernel
theorem dX6_addMessage_9 : decode cX6_addMessage 9 = .ok (.ifCond .eq 14, 3) := by decide +kernel
theorem dX6_addMessage_12 : decode cX6_addMessage 12 = .ok (.iload_n 3, 1) := by decide +kernel
theorem dX6_addMessage_13 : decode cX6_addMessage 13 = .ok (.iconst 1, 1) := by decide +kernel
theorem dX6_addMessage_14 : decode cX6_addMessage 14 = .ok (.if_icmp .lt 9, 3) := by decide +kernel
theorem dX6_addMessage_17 : decode cX6_addMessage 17 = .ok (.iload_n 3, 1) := by decide +kernel
theorem dX6_addMessage_18 : decode cX6_addMessage 18 = .ok (.bipush 9, 2) := by decide +kernel
theorem dX6_addMessage_20 : decode cX6_addMessage 20 = .ok (.if_icmp .le 6, 3) := by decide +kernel
theorem dX6_addMessage_23 : decode cX6_addMessage 23 = .ok (.bipush (-2), 2) := by decide +kernel
theorem dX6_addMessage_25 : decode cX6_addMessage 25 = .ok (.ireturn, 1) := by decide +kernel
theorem dX6_addMessage_26 : decode cX6_addMessage 26 = .ok (.aload_n 0, 1) := by decide +kernel
theorem dX6_addMessage_27 : decode cX6_addMessage 27 = .ok (.getfield 12, 3) := by decide +kernel
theorem dX6_addMessage_30 : decode cX6_addMessage 30 = .ok (.aload_n 0, 1) := by decide +kernel
theorem dX6_addMessage_31 : decode cX6_addMessage 31 = .ok (.getfield 32, 3) := by decide +kernel
theorem dX6_addMessage_34 : decode cX6_addMessage 34 = .ok (.iload_n 1, 1) := by decide +kernel
theorem dX6_addMessage_35 : decode cX6_addMessage 35 = .ok (.iload_n 2, 1) := by decide +kernel
theorem dX6_addMessage_36 : decode cX6_addMessage 36 = .ok (.invokevirtual 97, 3) := by decide +kernel
theorem dX6_addMessage_39 : decode cX6_addMessage 39 = .ok (.iload_n 3, 1) := by decide +kernel
theorem dX6_addMessage_40 : decode cX6_addMessage 40 = .ok (.invokevirtual 220, 3) := by decide +kernel
theorem dX6_addMessage_43 : decode cX6_addMessage 43 = .ok (.istore 4, 2) := by decide +kernel
theorem dX6_addMessage_45 : decode cX6_addMessage 45 = .ok (.iload 4, 2) := by decide +kernel
theorem dX6_addMessage_47 : decode cX6_addMessage 47 = .ok (.ifCond .lt 9, 3) := by decide +kernel
theorem dX6_addMessage_50 : decode cX6_addMessage 50 = .ok (.aload_n 0, 1) := by decide +kernel
theorem dX6_addMessage_51 : decode cX6_addMessage 51 = .ok (.iload 4, 2) := by decide +kernel
theorem dX6_addMessage_53 : decode cX6_addMessage 53 = .ok (.invokevirtual 222, 3) := by decide +kernel
theorem dX6_addMessage_56 : decode cX6_addMessage 56 = .ok (.iload 4, 2) := by decide +kernel
theorem dX6_addMessage_58 : decode cX6_addMessage 58 = .ok (.ireturn, 1) := by decide +kernel
