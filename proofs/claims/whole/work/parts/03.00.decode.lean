theorem dX0_init_0 : decode cX0_init 0 = .ok (.aload_n 0, 1) := by decide +kernel
theorem dX0_init_1 : decode cX0_init 1 = .ok (.invokespecial 3, 3) := by decide +kernel
theorem dX0_init_4 : decode cX0_init 4 = .ok (.aload_n 0, 1) := by decide +kernel
theorem dX0_init_5 : decode cX0_init 5 = .ok (.bipush 36, 2) := by decide +kernel
theorem dX0_init_7 : decode cX0_init 7 = .ok (.newarray .int, 2) := by decide +kernel
theorem dX0_init_9 : decode cX0_init 9 = .ok (.putfield 9, 3) := by decide +kernel
theorem dX0_init_12 : decode cX0_init 12 = .ok (.aload_n 0, 1) := by decide +kernel
theorem dX0_init_13 : decode cX0_init 13 = .ok (.bipush 36, 2) := by decide +kernel
theorem dX0_init_15 : decode cX0_init 15 = .ok (.newarray .int, 2) := by decide +kernel
theorem dX0_init_17 : decode cX0_init 17 = .ok (.putfield 15, 3) := by decide +kernel
theorem dX0_init_20 : decode cX0_init 20 = .ok (.aload_n 0, 1) := by decide +kernel
theorem dX0_init_21 : decode cX0_init 21 = .ok (.sipush 144, 3) := by decide +kernel
theorem dX0_init_24 : decode cX0_init 24 = .ok (.newarray .int, 2) := by decide +kernel
theorem dX0_init_26 : decode cX0_init 26 = .ok (.putfield 18, 3) := by decide +kernel
theorem dX0_init_29 : decode cX0_init 29 = .ok (.return_, 1) := by decide +kernel
theorem dX0_lay_0 : decode cX0_lay 0 = .ok (.iload_n 1, 1) := by decide +kernel
theorem dX0_lay_1 : decode cX0_lay 1 = .ok (.aload_n 0, 1) := by decide +kernel
theorem dX0_lay_2 : decode cX0_lay 2 = .ok (.getfield 21, 3) := by decide +kernel
theorem dX0_lay_5 : decode cX0_lay 5 = .ok (.if_icmp .ne 12, 3) := by decide +kernel
theorem dX0_lay_8 : decode cX0_lay 8 = .ok (.iload_n 2, 1) := by decide +kernel
theorem dX0_lay_9 : decode cX0_lay 9 = .ok (.aload_n 0, 1) := by decide +kernel
theorem dX0_lay_10 : decode cX0_lay 10 = .ok (.getfield 25, 3) := by decide +kernel
theorem dX0_lay_13 : decode cX0_lay 13 = .ok (.if_icmp .ne 4, 3) := by decide +kernel
theorem dX0_lay_16 : decode cX0_lay 16 = .ok (.return_, 1) := by decide +kernel
theorem dX0_lay_17 : decode cX0_lay 17 = .ok (.aload_n 0, 1) := by decide +kernel
theorem dX0_lay_18 : decode cX0_lay 18 = .ok (.iload_n 1, 1) := by decide +kernel
theorem dX0_lay_19 : decode cX0_lay 19 = .ok (.putfield 21, 3) := by decide +kernel
theorem dX0_lay_22 : decode cX0_lay 22 = .ok (.aload_n 0, 1) := by decide +kernel
theorem dX0_lay_23 : decode cX0_lay 23 = .ok (.iload_n 2, 1) := by decide +kernel
theorem dX0_lay_24 : decode cX0_lay 24 = .ok (.putfield 25, 3) := by decide +kernel
theorem dX0_lay_27 : decode cX0_lay 27 = .ok (.iconst 0, 1) := by decide +kernel
theorem dX0_lay_28 : decode cX0_lay 28 = .ok (.istore_n 3, 1) := by decide +kernel
theorem dX0_lay_29 : decode cX0_lay 29 = .ok (.iload_n 3, 1) := by decide +kernel
theorem dX0_lay_30 : decode cX0_lay 30 = .ok (.aload_n 0, 1) := by decide +kernel
theorem dX0_lay_31 : decode cX0_lay 31 = .ok (.getfield 25, 3) := by decide +kernel
theorem dX0_lay_34 : decode cX0_lay 34 = .ok (.if_icmp .ge 34, 3) := by decide +kernel
theorem dX0_lay_37 : decode cX0_lay 37 = .ok (.iconst 0, 1) := by decide +kernel
theorem dX0_lay_38 : decode cX0_lay 38 = .ok (.istore 4, 2) := by decide +kernel
theorem dX0_lay_40 : decode cX0_lay 40 = .ok (.iload 4, 2) := by decide +kernel
theorem dX0_lay_42 : decode cX0_lay 42 = .ok (.aload_n 0, 1) := by decide +kernel
theorem dX0_lay_43 : decode cX0_lay 43 = .ok (.getfield 21, 3) := by decide +kernel
theorem dX0_lay_46 : decode cX0_lay 46 = .ok (.if_icmp .ge 16, 3) := by decide +kernel
theorem dX0_lay_49 : decode cX0_lay 49 = .ok (.aload_n 0, 1) := by decide +kernel
theorem dX0_lay_50 : decode cX0_lay 50 = .ok (.iload 4, 2) := by decide +kernel
theorem dX0_lay_52 : decode cX0_lay 52 = .ok (.iload_n 3, 1) := by decide +kernel
theorem dX0_lay_53 : decode cX0_lay 53 = .ok (.invokevirtual 28, 3) := by decide +kernel
theorem dX0_lay_56 : decode cX0_lay 56 = .ok (.iinc 4 1, 3) := by decide +kernel
theorem dX0_lay_59 : decode cX0_lay 59 = .ok (.goto (-19), 3) := by decide +kernel
theorem dX0_lay_62 : decode cX0_lay 62 = .ok (.iinc 3 1, 3) := by decide +kernel
theorem dX0_lay_65 : decode cX0_lay 65 = .ok (.goto (-36), 3) := by decide +kernel
theorem dX0_lay_68 : decode cX0_lay 68 = .ok (.return_, 1) := by decide +kernel
theorem dX0_layPlace_0 : decode cX0_layPlace 0 = .ok (.aload_n 0, 1) := by decide +kernel
theorem dX0_layPlace_1 : decode cX0_layPlace 1 = .ok (.iload_n 1, 1) := by decide +kernel
theorem dX0_layPlace_2 : decode cX0_layPlace 2 = .ok (.iload_n 2, 1) := by decide +kernel
theorem dX0_layPlace_3 : decode cX0_layPlace 3 = .ok (.invokevirtual 32, 3) := by decide +kernel
theorem dX0_layPlace_6 : decode cX0_layPlace 6 = .ok (.istore_n 3, 1) := by decide +kernel
theorem dX0_layPlace_7 : decode cX0_layPlace 7 = .ok (.aload_n 0, 1) := by decide +kernel
theorem dX0_layPlace_8 : decode cX0_layPlace 8 = .ok (.getfield 9, 3) := by decide +kernel
theorem dX0_layPlace_11 : decode cX0_layPlace 11 = .ok (.iload_n 3, 1) := by decide +kernel
theorem dX0_layPlace_12 : decode cX0_layPlace 12 = .ok (.iload_n 1, 1) := by decide +kernel
theorem dX0_layPlace_13 : decode cX0_layPlace 13 = .ok (.iastore, 1) := by decide +kernel
theorem dX0_layPlace_14 : decode cX0_layPlace 14 = .ok (.aload_n 0, 1) := by decide +kernel
theorem dX0_layPlace_15 : decode cX0_layPlace 15 = .ok (.getfield 15, 3) := by decide +kernel
theorem dX0_layPlace_18 : decode cX0_layPlace 18 = .ok (.iload_n 3, 1) := by decide +kernel
theorem dX0_layPlace_19 : decode cX0_layPlace 19 = .ok (.iload_n 2, 1) := by decide +kernel
theorem dX0_layPlace_20 : decode cX0_layPlace 20 = .ok (.iastore, 1) := by decide +kernel
theorem dX0_layPlace_21 : decode cX0_layPlace 21 = .ok (.iconst 0, 1) := by decide +kernel
theorem dX0_layPlace_22 : decode cX0_layPlace 22 = .ok (.istore 4, 2) := by decide +kernel
theorem dX0_layPlace_24 : decode cX0_layPlace 24 = .ok (.iload 4, 2) := by decide +kernel
theorem dX0_layPlace_26 : decode cX0_layPlace 26 = .ok (.iconst 4, 1) := by decide +kernel
theorem dX0_layPlace_27 : decode cX0_layPlace 27 = .ok (.if_icmp .ge 63, 3) := by decide +kernel
theorem dX0_layPlace_30 : decode cX0_layPlace 30 = .ok (.iload_n 1, 1) := by decide +kernel
theorem dX0_layPlace_31 : decode cX0_layPlace 31 = .ok (.getstatic 36, 3) := by decide +kernel
theorem dX0_layPlace_34 : decode cX0_layPlace 34 = .ok (.iload 4, 2) := by decide +kernel
theorem dX0_layPlace_36 : decode cX0_layPlace 36 = .ok (.iaload, 1) := by decide +kernel
theorem dX0_layPlace_37 : decode cX0_layPlace 37 = .ok (.iadd, 1) := by decide +kernel
theorem dX0_layPlace_38 : decode cX0_layPlace 38 = .ok (.istore 5, 2) := by decide +kernel
theorem dX0_layPlace_40 : decode cX0_layPlace 40 = .ok (.iload_n 2, 1) := by decide +kernel
theorem dX0_layPlace_41 : decode cX0_layPlace 41 = .ok (.getstatic 39, 3) := by decide +kernel
theorem dX0_layPlace_44 : decode cX0_layPlace 44 = .ok (.iload 4, 2) := by decide +kernel
theorem dX0_layPlace_46 : decode cX0_layPlace 46 = .ok (.iaload, 1) := by decide +kernel
theorem dX0_layPlace_47 : decode cX0_layPlace 47 = .ok (.iadd, 1) := by decide +kernel
theorem dX0_layPlace_48 : decode cX0_layPlace 48 = .ok (.istore 6, 2) := by decide +kernel
theorem dX0_layPlace_50 : decode cX0_layPlace 50 = .ok (.aload_n 0, 1) := by decide +kernel
theorem dX0_layPlace_51 : decode cX0_layPlace 51 = .ok (.getfield 18, 3) := by decide +kernel
theorem dX0_layPlace_54 : decode cX0_layPlace 54 = .ok (.iload_n 3, 1) := by decide +kernel
theorem dX0_layPlace_55 : decode cX0_layPlace 55 = .ok (.iconst 4, 1) := by decide +kernel
theorem dX0_layPlace_56 : decode cX0_layPlace 56 = .ok (.imul, 1) := by decide +kernel
theorem dX0_layPlace_57 : decode cX0_layPlace 57 = .ok (.iload 4, 2) := by decide +kernel
theorem dX0_layPlace_59 : decode cX0_layPlace 59 = .ok (.iadd, 1) := by decide +kernel
theorem dX0_layPlace_60 : decode cX0_layPlace 60 = .ok (.aload_n 0, 1) := by decide +kernel
theorem dX0_layPlace_61 : decode cX0_layPlace 61 = .ok (.iload 5, 2) := by decide +kernel
theorem dX0_layPlace_63 : decode cX0_layPlace 63 = .ok (.iload 6, 2) := by decide +kernel
theorem dX0_layPlace_65 : decode cX0_layPlace 65 = .ok (.invokevirtual 42, 3) := by decide +kernel
theorem dX0_layPlace_68 : decode cX0_layPlace 68 = .ok (.ifCond .eq 14, 3) := by decide +kernel
theorem dX0_layPlace_71 : decode cX0_layPlace 71 = .ok (.aload_n 0, 1) := by decide +kernel
theorem dX0_layPlace_72 : decode cX0_layPlace 72 = .ok (.iload 5, 2) := by decide +kernel
theorem dX0_layPlace_74 : decode cX0_layPlace 74 = .ok (.iload 6, 2) := by decide +kernel
theorem dX0_layPlace_76 : decode cX0_layPlace 76 = .ok (.invokevirtual 32, 3) := by decide +kernel
theorem dX0_layPlace_79 : decode cX0_layPlace 79 = .ok (.goto 4, 3) := by decide +kernel
theorem dX0_layPlace_82 : decode cX0_layPlace 82 = .ok (.iconst (-1), 1) := by decide +kernel
theorem dX0_layPlace_83 : decode cX0_layPlace 83 = .ok (.iastore, 1) := by decide +kernel
theorem dX0_layPlace_84 : decode cX0_layPlace 84 = .ok (.iinc 4 1, 3) := by decide +kernel
theorem dX0_layPlace_87 : decode cX0_layPlace 87 = .ok (.goto (-63), 3) := by decide +kernel
theorem dX0_layPlace_90 : decode cX0_layPlace 90 = .ok (.return_, 1) := by decide +kernel
theorem dX0_places_0 : decode cX0_places 0 = .ok (.aload_n 0, 1) := by decide +kernel
theorem dX0_places_1 : decode cX0_places 1 = .ok (.getfield 21, 3) := by decide +kernel
theorem dX0_places_4 : decode cX0_places 4 = .ok (.aload_n 0, 1) := by decide +kernel
theorem dX0_places_5 : decode cX0_places 5 = .ok (.getfield 25, 3) := by decide +kernel
theorem dX0_places_8 : decode cX0_places 8 = .ok (.imul, 1) := by decide +kernel
theorem dX0_places_9 : decode cX0_places 9 = .ok (.ireturn, 1) := by decide +kernel
theorem dX0_has_0 : decode cX0_has 0 = .ok (.iload_n 1, 1) := by decide +kernel
theorem dX0_has_1 : decode cX0_has 1 = .ok (.ifCond .lt 27, 3) := by decide +kernel
theorem dX0_has_4 : decode cX0_has 4 = .ok (.iload_n 1, 1) := by decide +kernel
theorem dX0_has_5 : decode cX0_has 5 = .ok (.aload_n 0, 1) := by decide +kernel
theorem dX0_has_6 : decode cX0_has 6 = .ok (.getfield 21, 3) := by decide +kernel
theorem dX0_has_9 : decode cX0_has 9 = .ok (.if_icmp .ge 19, 3) := by decide +kernel
theorem dX0_has_12 : decode cX0_has 12 = .ok (.iload_n 2, 1) := by decide +kernel
theorem dX0_has_13 : decode cX0_has 13 = .ok (.ifCond .lt 15, 3) := by decide +kernel
theorem dX0_has_16 : decode cX0_has 16 = .ok (.iload_n 2, 1) := by decide +kernel
theorem dX0_has_17 : decode cX0_has 17 = .ok (.aload_n 0, 1) := by decide +kernel
theorem dX0_has_18 : decode cX0_has 18 = .ok (.getfield 25, 3) := by decide +kernel
theorem dX0_has_21 : decode cX0_has 21 = .ok (.if_icmp .ge 7, 3) := by decide +kernel
theorem dX0_has_24 : decode cX0_has 24 = .ok (.iconst 1, 1) := by decide +kernel
theorem dX0_has_25 : decode cX0_has 25 = .ok (.goto 4, 3) := by decide +kernel
theorem dX0_has_28 : decode cX0_has 28 = .ok (.iconst 0, 1) := by decide +kernel
theorem dX0_has_29 : decode cX0_has 29 = .ok (.ireturn, 1) := by decide +kernel
theorem dX0_hasLabel_0 : decode cX0_hasLabel 0 = .ok (.iload_n 1, 1) := by decide +kernel
theorem dX0_hasLabel_1 : decode cX0_hasLabel 1 = .ok (.ifCond .lt 15, 3) := by decide +kernel
theorem dX0_hasLabel_4 : decode cX0_hasLabel 4 = .ok (.iload_n 1, 1) := by decide +kernel
theorem dX0_hasLabel_5 : decode cX0_hasLabel 5 = .ok (.aload_n 0, 1) := by decide +kernel
theorem dX0_hasLabel_6 : decode cX0_hasLabel 6 = .ok (.invokevirtual 46, 3) := by decide +kernel
theorem dX0_hasLabel_9 : decode cX0_hasLabel 9 = .ok (.if_icmp .ge 7, 3) := by decide +kernel
theorem dX0_hasLabel_12 : decode cX0_hasLabel 12 = .ok (.iconst 1, 1) := by decide +kernel
theorem dX0_hasLabel_13 : decode cX0_hasLabel 13 = .ok (.goto 4, 3) := by decide +kernel
theorem dX0_hasLabel_16 : decode cX0_hasLabel 16 = .ok (.iconst 0, 1) := by decide +kernel
theorem dX0_hasLabel_17 : decode cX0_hasLabel 17 = .ok (.ireturn, 1) := by decide +kernel
theorem dX0_labelAt_0 : decode cX0_labelAt 0 = .ok (.iload_n 2, 1) := by decide +kernel
theorem dX0_labelAt_1 : decode cX0_labelAt 1 = .ok (.aload_n 0, 1) := by decide +kernel
theorem dX0_labelAt_2 : decode cX0_labelAt 2 = .ok (.getfield 21, 3) := by decide +kernel
theorem dX0_labelAt_5 : decode cX0_labelAt 5 = .ok (.imul, 1) := by decide +kernel
theorem dX0_labelAt_6 : decode cX0_labelAt 6 = .ok (.iload_n 2, 1) := by decide +kernel
theorem dX0_labelAt_7 : decode cX0_labelAt 7 = .ok (.iconst 1, 1) := by decide +kernel
theorem dX0_labelAt_8 : decode cX0_labelAt 8 = .ok (.iand, 1) := by decide +kernel
theorem dX0_labelAt_9 : decode cX0_labelAt 9 = .ok (.ifCond .ne 7, 3) := by decide +kernel
theorem dX0_labelAt_12 : decode cX0_labelAt 12 = .ok (.iload_n 1, 1) := by decide +kernel
theorem dX0_labelAt_13 : decode cX0_labelAt 13 = .ok (.goto 11, 3) := by decide +kernel
theorem dX0_labelAt_16 : decode cX0_labelAt 16 = .ok (.aload_n 0, 1) := by decide +kernel
theorem dX0_labelAt_17 : decode cX0_labelAt 17 = .ok (.getfield 21, 3) := by decide +kernel
theorem dX0_labelAt_20 : decode cX0_labelAt 20 = .ok (.iconst 1, 1) := by decide +kernel
theorem dX0_labelAt_21 : decode cX0_labelAt 21 = .ok (.isub, 1) := by decide +kernel
theorem dX0_labelAt_22 : decode cX0_labelAt 22 = .ok (.iload_n 1, 1) := by decide +kernel
theorem dX0_labelAt_23 : decode cX0_labelAt 23 = .ok (.isub, 1) := by decide +kernel
theorem dX0_labelAt_24 : decode cX0_labelAt 24 = .ok (.iadd, 1) := by decide +kernel
theorem dX0_labelAt_25 : decode cX0_labelAt 25 = .ok (.ireturn, 1) := by decide +kernel
theorem dX0_xOf_0 : decode cX0_xOf 0 = .ok (.aload_n 0, 1) := by decide +kernel
theorem dX0_xOf_1 : decode cX0_xOf 1 = .ok (.iload_n 1, 1) := by decide +kernel
theorem dX0_xOf_2 : decode cX0_xOf 2 = .ok (.invokevirtual 50, 3) := by decide +kernel
theorem dX0_xOf_5 : decode cX0_xOf 5 = .ok (.ifCond .eq 12, 3) := by decide +kernel
theorem dX0_xOf_8 : decode cX0_xOf 8 = .ok (.aload_n 0, 1) := by decide +kernel
theorem dX0_xOf_9 : decode cX0_xOf 9 = .ok (.getfield 9, 3) := by decide +kernel
theorem dX0_xOf_12 : decode cX0_xOf 12 = .ok (.iload_n 1, 1) := by decide +kernel
theorem dX0_xOf_13 : decode cX0_xOf 13 = .ok (.iaload, 1) := by decide +kernel
theorem dX0_xOf_14 : decode cX0_xOf 14 = .ok (.goto 4, 3) := by decide +kernel
theorem dX0_xOf_17 : decode cX0_xOf 17 = .ok (.iconst (-1), 1) := by decide +kernel
theorem dX0_xOf_18 : decode cX0_xOf 18 = .ok (.ireturn, 1) := by decide +kernel
theorem dX0_yOf_0 : decode cX0_yOf 0 = .ok (.aload_n 0, 1) := by decide +kernel
theorem dX0_yOf_1 : decode cX0_yOf 1 = .ok (.iload_n 1, 1) := by decide +kernel
theorem dX0_yOf_2 : decode cX0_yOf 2 = .ok (.invokevirtual 50, 3) := by decide +kernel
theorem dX0_yOf_5 : decode cX0_yOf 5 = .ok (.ifCond .eq 12, 3) := by decide +kernel
theorem dX0_yOf_8 : decode cX0_yOf 8 = .ok (.aload_n 0, 1) := by decide +kernel
theorem dX0_yOf_9 : decode cX0_yOf 9 = .ok (.getfield 15, 3) := by decide +kernel
theorem dX0_yOf_12 : decode cX0_yOf 12 = .ok (.iload_n 1, 1) := by decide +kernel
theorem dX0_yOf_13 : decode cX0_yOf 13 = .ok (.iaload, 1) := by decide +kernel
theorem dX0_yOf_14 : decode cX0_yOf 14 = .ok (.goto 4, 3) := by decide +kernel
theorem dX0_yOf_17 : decode cX0_yOf 17 = .ok (.iconst (-1), 1) := by decide +kernel
theorem dX0_yOf_18 : decode cX0_yOf 18 = .ok (.ireturn, 1) := by decide +kernel
theorem dX0_tell_0 : decode cX0_tell 0 = .ok (.aload_n 0, 1) := by decide +kernel
theorem dX0_tell_1 : decode cX0_tell 1 = .ok (.iload_n 1, 1) := by decide +kernel
theorem dX0_tell_2 : decode cX0_tell 2 = .ok (.invokevirtual 50, 3) := by decide +kernel
theorem dX0_tell_5 : decode cX0_tell 5 = .ok (.ifCond .eq 22, 3) := by decide +kernel
theorem dX0_tell_8 : decode cX0_tell 8 = .ok (.bipush 10, 2) := by decide +kernel
theorem dX0_tell_10 : decode cX0_tell 10 = .ok (.aload_n 0, 1) := by decide +kernel
theorem dX0_tell_11 : decode cX0_tell 11 = .ok (.getfield 9, 3) := by decide +kernel
theorem dX0_tell_14 : decode cX0_tell 14 = .ok (.iload_n 1, 1) := by decide +kernel
theorem dX0_tell_15 : decode cX0_tell 15 = .ok (.iaload, 1) := by decide +kernel
theorem dX0_tell_16 : decode cX0_tell 16 = .ok (.imul, 1) := by decide +kernel
theorem dX0_tell_17 : decode cX0_tell 17 = .ok (.aload_n 0, 1) := by decide +kernel
theorem dX0_tell_18 : decode cX0_tell 18 = .ok (.getfield 15, 3) := by decide +kernel
theorem dX0_tell_21 : decode cX0_tell 21 = .ok (.iload_n 1, 1) := by decide +kernel
theorem dX0_tell_22 : decode cX0_tell 22 = .ok (.iaload, 1) := by decide +kernel
theorem dX0_tell_23 : decode cX0_tell 23 = .ok (.iadd, 1) := by decide +kernel
theorem dX0_tell_24 : decode cX0_tell 24 = .ok (.goto 4, 3) := by decide +kernel
theorem dX0_tell_27 : decode cX0_tell 27 = .ok (.iconst (-1), 1) := by decide +kernel
theorem dX0_tell_28 : decode cX0_tell 28 = .ok (.ireturn, 1) := by decide +kernel
theorem dX0_endOf_0 : decode cX0_endOf 0 = .ok (.iload_n 1, 1) := by decide +kernel
theorem dX0_endOf_1 : decode cX0_endOf 1 = .ok (.ifCond .lt 19, 3) := by decide +kernel
theorem dX0_endOf_4 : decode cX0_endOf 4 = .ok (.iload_n 1, 1) := by decide +kernel
theorem dX0_endOf_5 : decode cX0_endOf 5 = .ok (.sipush 144, 3) := by decide +kernel
theorem dX0_endOf_8 : decode cX0_endOf 8 = .ok (.if_icmp .ge 12, 3) := by decide +kernel
theorem dX0_endOf_11 : decode cX0_endOf 11 = .ok (.aload_n 0, 1) := by decide +kernel
theorem dX0_endOf_12 : decode cX0_endOf 12 = .ok (.getfield 18, 3) := by decide +kernel
theorem dX0_endOf_15 : decode cX0_endOf 15 = .ok (.iload_n 1, 1) := by decide +kernel
theorem dX0_endOf_16 : decode cX0_endOf 16 = .ok (.iaload, 1) := by decide +kernel
theorem dX0_endOf_17 : decode cX0_endOf 17 = .ok (.goto 4, 3) := by decide +kernel
theorem dX0_endOf_20 : decode cX0_endOf 20 = .ok (.iconst (-1), 1) := by decide +kernel
theorem dX0_endOf_21 : decode cX0_endOf 21 = .ok (.ireturn, 1) := by decide +kernel
theorem dX0_channelAt_0 : decode cX0_channelAt 0 = .ok (.aload_n 0, 1) := by decide +kernel
theorem dX0_channelAt_1 : decode cX0_channelAt 1 = .ok (.iload_n 1, 1) := by decide +kernel
theorem dX0_channelAt_2 : decode cX0_channelAt 2 = .ok (.iload_n 2, 1) := by decide +kernel
theorem dX0_channelAt_3 : decode cX0_channelAt 3 = .ok (.invokevirtual 42, 3) := by decide +kernel
theorem dX0_channelAt_6 : decode cX0_channelAt 6 = .ok (.ifCond .eq 12, 3) := by decide +kernel
theorem dX0_channelAt_9 : decode cX0_channelAt 9 = .ok (.iload_n 3, 1) := by decide +kernel
theorem dX0_channelAt_10 : decode cX0_channelAt 10 = .ok (.ifCond .lt 8, 3) := by decide +kernel
theorem dX0_channelAt_13 : decode cX0_channelAt 13 = .ok (.iload_n 3, 1) := by decide +kernel
theorem dX0_channelAt_14 : decode cX0_channelAt 14 = .ok (.iconst 4, 1) := by decide +kernel
theorem dX0_channelAt_15 : decode cX0_channelAt 15 = .ok (.if_icmp .lt 5, 3) := by decide +kernel
theorem dX0_channelAt_18 : decode cX0_channelAt 18 = .ok (.iconst (-1), 1) := by decide +kernel
theorem dX0_channelAt_19 : decode cX0_channelAt 19 = .ok (.ireturn, 1) := by decide +kernel
theorem dX0_channelAt_20 : decode cX0_channelAt 20 = .ok (.aload_n 0, 1) := by decide +kernel
theorem dX0_channelAt_21 : decode cX0_channelAt 21 = .ok (.iload_n 1, 1) := by decide +kernel
theorem dX0_channelAt_22 : decode cX0_channelAt 22 = .ok (.iload_n 2, 1) := by decide +kernel
theorem dX0_channelAt_23 : decode cX0_channelAt 23 = .ok (.invokevirtual 32, 3) := by decide +kernel
theorem dX0_channelAt_26 : decode cX0_channelAt 26 = .ok (.iconst 4, 1) := by decide +kernel
theorem dX0_channelAt_27 : decode cX0_channelAt 27 = .ok (.imul, 1) := by decide +kernel
theorem dX0_channelAt_28 : decode cX0_channelAt 28 = .ok (.iload_n 3, 1) := by decide +kernel
theorem dX0_channelAt_29 : decode cX0_channelAt 29 = .ok (.iadd, 1) := by decide +kernel
theorem dX0_channelAt_30 : decode cX0_channelAt 30 = .ok (.istore 4, 2) := by decide +kernel
theorem dX0_channelAt_32 : decode cX0_channelAt 32 = .ok (.aload_n 0, 1) := by decide +kernel
theorem dX0_channelAt_33 : decode cX0_channelAt 33 = .ok (.getfield 18, 3) := by decide +kernel
theorem dX0_channelAt_36 : decode cX0_channelAt 36 = .ok (.iload 4, 2) := by decide +kernel
theorem dX0_channelAt_38 : decode cX0_channelAt 38 = .ok (.iaload, 1) := by decide +kernel
theorem dX0_channelAt_39 : decode cX0_channelAt 39 = .ok (.iconst (-1), 1) := by decide +kernel
theorem dX0_channelAt_40 : decode cX0_channelAt 40 = .ok (.if_icmp .ne 7, 3) := by decide +kernel
theorem dX0_channelAt_43 : decode cX0_channelAt 43 = .ok (.iconst (-1), 1) := by decide +kernel
theorem dX0_channelAt_44 : decode cX0_channelAt 44 = .ok (.goto 5, 3) := by decide +kernel
theorem dX0_channelAt_47 : decode cX0_channelAt 47 = .ok (.iload 4, 2) := by decide +kernel
theorem dX0_channelAt_49 : decode cX0_channelAt 49 = .ok (.ireturn, 1) := by decide +kernel
theorem dX0_channelTowards_0 : decode cX0_channelTowards 0 = .ok (.iload_n 1, 1) := by decide +kernel
theorem dX0_channelTowards_1 : decode cX0_channelTowards 1 = .ok (.ifCond .lt 9, 3) := by decide +kernel
theorem dX0_channelTowards_4 : decode cX0_channelTowards 4 = .ok (.iload_n 1, 1) := by decide +kernel
theorem dX0_channelTowards_5 : decode cX0_channelTowards 5 = .ok (.bipush 36, 2) := by decide +kernel
theorem dX0_channelTowards_7 : decode cX0_channelTowards 7 = .ok (.if_icmp .lt 5, 3) := by decide +kernel
theorem dX0_channelTowards_10 : decode cX0_channelTowards 10 = .ok (.iconst (-1), 1) := by decide +kernel
theorem dX0_channelTowards_11 : decode cX0_channelTowards 11 = .ok (.ireturn, 1) := by decide +kernel
theorem dX0_channelTowards_12 : decode cX0_channelTowards 12 = .ok (.iconst (-1), 1) := by decide +kernel
theorem dX0_channelTowards_13 : decode cX0_channelTowards 13 = .ok (.istore_n 3, 1) := by decide +kernel
theorem dX0_channelTowards_14 : decode cX0_channelTowards 14 = .ok (.iconst (-1), 1) := by decide +kernel
theorem dX0_channelTowards_15 : decode cX0_channelTowards 15 = .ok (.istore 4, 2) := by decide +kernel
theorem dX0_channelTowards_17 : decode cX0_channelTowards 17 = .ok (.iload_n 1, 1) := by decide +kernel
theorem dX0_channelTowards_18 : decode cX0_channelTowards 18 = .ok (.iconst 4, 1) := by decide +kernel
theorem dX0_channelTowards_19 : decode cX0_channelTowards 19 = .ok (.imul, 1) := by decide +kernel
theorem dX0_channelTowards_20 : decode cX0_channelTowards 20 = .ok (.istore 5, 2) := by decide +kernel
theorem dX0_channelTowards_22 : decode cX0_channelTowards 22 = .ok (.iload 5, 2) := by decide +kernel
theorem dX0_channelTowards_24 : decode cX0_channelTowards 24 = .ok (.iload_n 1, 1) := by decide +kernel
theorem dX0_channelTowards_25 : decode cX0_channelTowards 25 = .ok (.iconst 4, 1) := by decide +kernel
theorem dX0_channelTowards_26 : decode cX0_channelTowards 26 = .ok (.imul, 1) := by decide +kernel
theorem dX0_channelTowards_27 : decode cX0_channelTowards 27 = .ok (.iconst 4, 1) := by decide +kernel
theorem dX0_channelTowards_28 : decode cX0_channelTowards 28 = .ok (.iadd, 1) := by decide +kernel
theorem dX0_channelTowards_29 : decode cX0_channelTowards 29 = .ok (.if_icmp .ge 91, 3) := by decide +kernel
theorem dX0_channelTowards_32 : decode cX0_channelTowards 32 = .ok (.aload_n 0, 1) := by decide +kernel
theorem dX0_channelTowards_33 : decode cX0_channelTowards 33 = .ok (.getfield 18, 3) := by decide +kernel
theorem dX0_channelTowards_36 : decode cX0_channelTowards 36 = .ok (.iload 5, 2) := by decide +kernel
theorem dX0_channelTowards_38 : decode cX0_channelTowards 38 = .ok (.iaload, 1) := by decide +kernel
theorem dX0_channelTowards_39 : decode cX0_channelTowards 39 = .ok (.istore 6, 2) := by decide +kernel
theorem dX0_channelTowards_41 : decode cX0_channelTowards 41 = .ok (.iload 6, 2) := by decide +kernel
theorem dX0_channelTowards_43 : decode cX0_channelTowards 43 = .ok (.iconst (-1), 1) := by decide +kernel
theorem dX0_channelTowards_44 : decode cX0_channelTowards 44 = .ok (.if_icmp .ne 6, 3) := by decide +kernel
theorem dX0_channelTowards_47 : decode cX0_channelTowards 47 = .ok (.goto 67, 3) := by decide +kernel
theorem dX0_channelTowards_50 : decode cX0_channelTowards 50 = .ok (.iload_n 2, 1) := by decide +kernel
theorem dX0_channelTowards_51 : decode cX0_channelTowards 51 = .ok (.iload_n 1, 1) := by decide +kernel
theorem dX0_channelTowards_52 : decode cX0_channelTowards 52 = .ok (.if_icmp .le 24, 3) := by decide +kernel
theorem dX0_channelTowards_55 : decode cX0_channelTowards 55 = .ok (.iload 6, 2) := by decide +kernel
theorem dX0_channelTowards_57 : decode cX0_channelTowards 57 = .ok (.iload_n 2, 1) := by decide +kernel
theorem dX0_channelTowards_58 : decode cX0_channelTowards 58 = .ok (.if_icmp .gt 14, 3) := by decide +kernel
theorem dX0_channelTowards_61 : decode cX0_channelTowards 61 = .ok (.iload 6, 2) := by decide +kernel
theorem dX0_channelTowards_63 : decode cX0_channelTowards 63 = .ok (.iload 4, 2) := by decide +kernel
theorem dX0_channelTowards_65 : decode cX0_channelTowards 65 = .ok (.if_icmp .le 7, 3) := by decide +kernel
theorem dX0_channelTowards_68 : decode cX0_channelTowards 68 = .ok (.iconst 1, 1) := by decide +kernel
theorem dX0_channelTowards_69 : decode cX0_channelTowards 69 = .ok (.goto 31, 3) := by decide +kernel
theorem dX0_channelTowards_72 : decode cX0_channelTowards 72 = .ok (.iconst 0, 1) := by decide +kernel
theorem dX0_channelTowards_73 : decode cX0_channelTowards 73 = .ok (.goto 27, 3) := by decide +kernel
theorem dX0_channelTowards_76 : decode cX0_channelTowards 76 = .ok (.iload 6, 2) := by decide +kernel
theorem dX0_channelTowards_78 : decode cX0_channelTowards 78 = .ok (.iload_n 2, 1) := by decide +kernel
theorem dX0_channelTowards_79 : decode cX0_channelTowards 79 = .ok (.if_icmp .lt 20, 3) := by decide +kernel
theorem dX0_channelTowards_82 : decode cX0_channelTowards 82 = .ok (.iload 4, 2) := by decide +kernel
theorem dX0_channelTowards_84 : decode cX0_channelTowards 84 = .ok (.iconst (-1), 1) := by decide +kernel
theorem dX0_channelTowards_85 : decode cX0_channelTowards 85 = .ok (.if_icmp .eq 10, 3) := by decide +kernel
theorem dX0_channelTowards_88 : decode cX0_channelTowards 88 = .ok (.iload 6, 2) := by decide +kernel
theorem dX0_channelTowards_90 : decode cX0_channelTowards 90 = .ok (.iload 4, 2) := by decide +kernel
theorem dX0_channelTowards_92 : decode cX0_channelTowards 92 = .ok (.if_icmp .ge 7, 3) := by decide +kernel
theorem dX0_channelTowards_95 : decode cX0_channelTowards 95 = .ok (.iconst 1, 1) := by decide +kernel
theorem dX0_channelTowards_96 : decode cX0_channelTowards 96 = .ok (.goto 4, 3) := by decide +kernel
theorem dX0_channelTowards_99 : decode cX0_channelTowards 99 = .ok (.iconst 0, 1) := by decide +kernel
theorem dX0_channelTowards_100 : decode cX0_channelTowards 100 = .ok (.istore 7, 2) := by decide +kernel
theorem dX0_channelTowards_102 : decode cX0_channelTowards 102 = .ok (.iload 7, 2) := by decide +kernel
theorem dX0_channelTowards_104 : decode cX0_channelTowards 104 = .ok (.ifCond .eq 10, 3) := by decide +kernel
theorem dX0_channelTowards_107 : decode cX0_channelTowards 107 = .ok (.iload 5, 2) := by decide +kernel
theorem dX0_channelTowards_109 : decode cX0_channelTowards 109 = .ok (.istore_n 3, 1) := by decide +kernel
theorem dX0_channelTowards_110 : decode cX0_channelTowards 110 = .ok (.iload 6, 2) := by decide +kernel
theorem dX0_channelTowards_112 : decode cX0_channelTowards 112 = .ok (.istore 4, 2) := by decide +kernel
theorem dX0_channelTowards_114 : decode cX0_channelTowards 114 = .ok (.iinc 5 1, 3) := by decide +kernel
theorem dX0_channelTowards_117 : decode cX0_channelTowards 117 = .ok (.goto (-95), 3) := by decide +kernel
theorem dX0_channelTowards_120 : decode cX0_channelTowards 120 = .ok (.iload_n 3, 1) := by decide +kernel
theorem dX0_channelTowards_121 : decode cX0_channelTowards 121 = .ok (.ireturn, 1) := by decide +kernel
theorem dX0_distance_0 : decode cX0_distance 0 = .ok (.iload_n 1, 1) := by decide +kernel
theorem dX0_distance_1 : decode cX0_distance 1 = .ok (.istore_n 3, 1) := by decide +kernel
theorem dX0_distance_2 : decode cX0_distance 2 = .ok (.iconst 0, 1) := by decide +kernel
theorem dX0_distance_3 : decode cX0_distance 3 = .ok (.istore 4, 2) := by decide +kernel
theorem dX0_distance_5 : decode cX0_distance 5 = .ok (.iload_n 3, 1) := by decide +kernel
theorem dX0_distance_6 : decode cX0_distance 6 = .ok (.iload_n 2, 1) := by decide +kernel
theorem dX0_distance_7 : decode cX0_distance 7 = .ok (.if_icmp .eq 27, 3) := by decide +kernel
theorem dX0_distance_10 : decode cX0_distance 10 = .ok (.iload 4, 2) := by decide +kernel
theorem dX0_distance_12 : decode cX0_distance 12 = .ok (.bipush 36, 2) := by decide +kernel
theorem dX0_distance_14 : decode cX0_distance 14 = .ok (.if_icmp .ge 20, 3) := by decide +kernel
theorem dX0_distance_17 : decode cX0_distance 17 = .ok (.aload_n 0, 1) := by decide +kernel
theorem dX0_distance_18 : decode cX0_distance 18 = .ok (.aload_n 0, 1) := by decide +kernel
theorem dX0_distance_19 : decode cX0_distance 19 = .ok (.iload_n 3, 1) := by decide +kernel
theorem dX0_distance_20 : decode cX0_distance 20 = .ok (.iload_n 2, 1) := by decide +kernel
theorem dX0_distance_21 : decode cX0_distance 21 = .ok (.invokevirtual 54, 3) := by decide +kernel
theorem dX0_distance_24 : decode cX0_distance 24 = .ok (.invokevirtual 57, 3) := by decide +kernel
theorem dX0_distance_27 : decode cX0_distance 27 = .ok (.istore_n 3, 1) := by decide +kernel
theorem dX0_distance_28 : decode cX0_distance 28 = .ok (.iinc 4 1, 3) := by decide +kernel
theorem dX0_distance_31 : decode cX0_distance 31 = .ok (.goto (-26), 3) := by decide +kernel
theorem dX0_distance_34 : decode cX0_distance 34 = .ok (.iload 4, 2) := by decide +kernel
theorem dX0_distance_36 : decode cX0_distance 36 = .ok (.ireturn, 1) := by decide +kernel
theorem dX1_init_0 : decode cX1_init 0 = .ok (.aload_n 0, 1) := by decide +kernel
theorem dX1_init_1 : decode cX1_init 1 = .ok (.invokespecial 3, 3) := by decide +kernel
theorem dX1_init_4 : decode cX1_init 4 = .ok (.aload_n 0, 1) := by decide +kernel
theorem dX1_init_5 : decode cX1_init 5 = .ok (.iconst 5, 1) := by decide +kernel
theorem dX1_init_6 : decode cX1_init 6 = .ok (.anewarray 9, 3) := by decide +kernel
theorem dX1_init_9 : decode cX1_init 9 = .ok (.putfield 11, 3) := by decide +kernel
theorem dX1_init_12 : decode cX1_init 12 = .ok (.iconst 0, 1) := by decide +kernel
theorem dX1_init_13 : decode cX1_init 13 = .ok (.istore_n 1, 1) := by decide +kernel
theorem dX1_init_14 : decode cX1_init 14 = .ok (.iload_n 1, 1) := by decide +kernel
theorem dX1_init_15 : decode cX1_init 15 = .ok (.iconst 5, 1) := by decide +kernel
theorem dX1_init_16 : decode cX1_init 16 = .ok (.if_icmp .ge 22, 3) := by decide +kernel
theorem dX1_init_19 : decode cX1_init 19 = .ok (.aload_n 0, 1) := by decide +kernel
theorem dX1_init_20 : decode cX1_init 20 = .ok (.getfield 11, 3) := by decide +kernel
theorem dX1_init_23 : decode cX1_init 23 = .ok (.iload_n 1, 1) := by decide +kernel
theorem dX1_init_24 : decode cX1_init 24 = .ok (.new 9, 3) := by decide +kernel
theorem dX1_init_27 : decode cX1_init 27 = .ok (.dup, 1) := by decide +kernel
theorem dX1_init_28 : decode cX1_init 28 = .ok (.invokespecial 17, 3) := by decide +kernel
theorem dX1_init_31 : decode cX1_init 31 = .ok (.aastore, 1) := by decide +kernel
theorem dX1_init_32 : decode cX1_init 32 = .ok (.iinc 1 1, 3) := by decide +kernel
theorem dX1_init_35 : decode cX1_init 35 = .ok (.goto (-21), 3) := by decide +kernel
theorem dX1_init_38 : decode cX1_init 38 = .ok (.return_, 1) := by decide +kernel
theorem dX1_size_0 : decode cX1_size 0 = .ok (.aload_n 0, 1) := by decide +kernel
theorem dX1_size_1 : decode cX1_size 1 = .ok (.getfield 18, 3) := by decide +kernel
theorem dX1_size_4 : decode cX1_size 4 = .ok (.ireturn, 1) := by decide +kernel
theorem dX1_push_0 : decode cX1_push 0 = .ok (.aload_n 0, 1) := by decide +kernel
theorem dX1_push_1 : decode cX1_push 1 = .ok (.getfield 11, 3) := by decide +kernel
theorem dX1_push_4 : decode cX1_push 4 = .ok (.aload_n 0, 1) := by decide +kernel
theorem dX1_push_5 : decode cX1_push 5 = .ok (.getfield 22, 3) := by decide +kernel
theorem dX1_push_8 : decode cX1_push 8 = .ok (.aaload, 1) := by decide +kernel
theorem dX1_push_9 : decode cX1_push 9 = .ok (.aload_n 1, 1) := by decide +kernel
theorem dX1_push_10 : decode cX1_push 10 = .ok (.invokevirtual 25, 3) := by decide +kernel
theorem dX1_push_13 : decode cX1_push 13 = .ok (.aload_n 0, 1) := by decide +kernel
theorem dX1_push_14 : decode cX1_push 14 = .ok (.aload_n 0, 1) := by decide +kernel
theorem dX1_push_15 : decode cX1_push 15 = .ok (.getfield 22, 3) := by decide +kernel
theorem dX1_push_18 : decode cX1_push 18 = .ok (.iconst 1, 1) := by decide +kernel
theorem dX1_push_19 : decode cX1_push 19 = .ok (.iadd, 1) := by decide +kernel
theorem dX1_push_20 : decode cX1_push 20 = .ok (.iconst 5, 1) := by decide +kernel
theorem dX1_push_21 : decode cX1_push 21 = .ok (.if_icmp .ge 12, 3) := by decide +kernel
theorem dX1_push_24 : decode cX1_push 24 = .ok (.aload_n 0, 1) := by decide +kernel
theorem dX1_push_25 : decode cX1_push 25 = .ok (.getfield 22, 3) := by decide +kernel
theorem dX1_push_28 : decode cX1_push 28 = .ok (.iconst 1, 1) := by decide +kernel
theorem dX1_push_29 : decode cX1_push 29 = .ok (.iadd, 1) := by decide +kernel
theorem dX1_push_30 : decode cX1_push 30 = .ok (.goto 4, 3) := by decide +kernel
theorem dX1_push_33 : decode cX1_push 33 = .ok (.iconst 0, 1) := by decide +kernel
theorem dX1_push_34 : decode cX1_push 34 = .ok (.putfield 22, 3) := by decide +kernel
theorem dX1_push_37 : decode cX1_push 37 = .ok (.aload_n 0, 1) := by decide +kernel
theorem dX1_push_38 : decode cX1_push 38 = .ok (.aload_n 0, 1) := by decide +kernel
theorem dX1_push_39 : decode cX1_push 39 = .ok (.getfield 18, 3) := by decide +kernel
theorem dX1_push_42 : decode cX1_push 42 = .ok (.iconst 1, 1) := by decide +kernel
theorem dX1_push_43 : decode cX1_push 43 = .ok (.iadd, 1) := by decide +kernel
theorem dX1_push_44 : decode cX1_push 44 = .ok (.iconst 5, 1) := by decide +kernel
theorem dX1_push_45 : decode cX1_push 45 = .ok (.invokestatic 29, 3) := by decide +kernel
theorem dX1_push_48 : decode cX1_push 48 = .ok (.putfield 18, 3) := by decide +kernel
theorem dX1_push_51 : decode cX1_push 51 = .ok (.return_, 1) := by decide +kernel
theorem dX1_popInto_0 : decode cX1_popInto 0 = .ok (.aload_n 0, 1) := by decide +kernel
theorem dX1_popInto_1 : decode cX1_popInto 1 = .ok (.getfield 18, 3) := by decide +kernel
theorem dX1_popInto_4 : decode cX1_popInto 4 = .ok (.ifCond .ne 5, 3) := by decide +kernel
theorem dX1_popInto_7 : decode cX1_popInto 7 = .ok (.iconst 0, 1) := by decide +kernel
theorem dX1_popInto_8 : decode cX1_popInto 8 = .ok (.ireturn, 1) := by decide +kernel
theorem dX1_popInto_9 : decode cX1_popInto 9 = .ok (.aload_n 0, 1) := by decide +kernel
theorem dX1_popInto_10 : decode cX1_popInto 10 = .ok (.aload_n 0, 1) := by decide +kernel
theorem dX1_popInto_11 : decode cX1_popInto 11 = .ok (.getfield 22, 3) := by decide +kernel
theorem dX1_popInto_14 : decode cX1_popInto 14 = .ok (.ifCond .le 12, 3) := by decide +kernel
theorem dX1_popInto_17 : decode cX1_popInto 17 = .ok (.aload_n 0, 1) := by decide +kernel
theorem dX1_popInto_18 : decode cX1_popInto 18 = .ok (.getfield 22, 3) := by decide +kernel
theorem dX1_popInto_21 : decode cX1_popInto 21 = .ok (.iconst 1, 1) := by decide +kernel
theorem dX1_popInto_22 : decode cX1_popInto 22 = .ok (.isub, 1) := by decide +kernel
theorem dX1_popInto_23 : decode cX1_popInto 23 = .ok (.goto 4, 3) := by decide +kernel
theorem dX1_popInto_26 : decode cX1_popInto 26 = .ok (.iconst 4, 1) := by decide +kernel
theorem dX1_popInto_27 : decode cX1_popInto 27 = .ok (.putfield 22, 3) := by decide +kernel
theorem dX1_popInto_30 : decode cX1_popInto 30 = .ok (.aload_n 0, 1) := by decide +kernel
theorem dX1_popInto_31 : decode cX1_popInto 31 = .ok (.dup, 1) := by decide +kernel
theorem dX1_popInto_32 : decode cX1_popInto 32 = .ok (.getfield 18, 3) := by decide +kernel
theorem dX1_popInto_35 : decode cX1_popInto 35 = .ok (.iconst 1, 1) := by decide +kernel
theorem dX1_popInto_36 : decode cX1_popInto 36 = .ok (.isub, 1) := by decide +kernel
theorem dX1_popInto_37 : decode cX1_popInto 37 = .ok (.putfield 18, 3) := by decide +kernel
theorem dX1_popInto_40 : decode cX1_popInto 40 = .ok (.aload_n 1, 1) := by decide +kernel
theorem dX1_popInto_41 : decode cX1_popInto 41 = .ok (.aload_n 0, 1) := by decide +kernel
theorem dX1_popInto_42 : decode cX1_popInto 42 = .ok (.getfield 11, 3) := by decide +kernel
theorem dX1_popInto_45 : decode cX1_popInto 45 = .ok (.aload_n 0, 1) := by decide +kernel
theorem dX1_popInto_46 : decode cX1_popInto 46 = .ok (.getfield 22, 3) := by decide +kernel
theorem dX1_popInto_49 : decode cX1_popInto 49 = .ok (.aaload, 1) := by decide +kernel
theorem dX1_popInto_50 : decode cX1_popInto 50 = .ok (.invokevirtual 25, 3) := by decide +kernel
theorem dX1_popInto_53 : decode cX1_popInto 53 = .ok (.iconst 1, 1) := by decide +kernel
theorem dX1_popInto_54 : decode cX1_popInto 54 = .ok (.ireturn, 1) := by decide +kernel
theorem dX2_init_0 : decode cX2_init 0 = .ok (.aload_n 0, 1) := by decide +kernel
theorem dX2_init_1 : decode cX2_init 1 = .ok (.invokespecial 3, 3) := by decide +kernel
theorem dX2_init_4 : decode cX2_init 4 = .ok (.aload_n 0, 1) := by decide +kernel
theorem dX2_init_5 : decode cX2_init 5 = .ok (.bipush 36, 2) := by decide +kernel
theorem dX2_init_7 : decode cX2_init 7 = .ok (.newarray .int, 2) := by decide +kernel
theorem dX2_init_9 : decode cX2_init 9 = .ok (.putfield 9, 3) := by decide +kernel
theorem dX2_init_12 : decode cX2_init 12 = .ok (.aload_n 0, 1) := by decide +kernel
theorem dX2_init_13 : decode cX2_init 13 = .ok (.iconst 5, 1) := by decide +kernel
theorem dX2_init_14 : decode cX2_init 14 = .ok (.newarray .int, 2) := by decide +kernel
theorem dX2_init_16 : decode cX2_init 16 = .ok (.putfield 15, 3) := by decide +kernel
theorem dX2_init_19 : decode cX2_init 19 = .ok (.aload_n 0, 1) := by decide +kernel
theorem dX2_init_20 : decode cX2_init 20 = .ok (.iconst 5, 1) := by decide +kernel
theorem dX2_init_21 : decode cX2_init 21 = .ok (.newarray .int, 2) := by decide +kernel
theorem dX2_init_23 : decode cX2_init 23 = .ok (.putfield 18, 3) := by decide +kernel
theorem dX2_init_26 : decode cX2_init 26 = .ok (.aload_n 0, 1) := by decide +kernel
theorem dX2_init_27 : decode cX2_init 27 = .ok (.iconst 5, 1) := by decide +kernel
theorem dX2_init_28 : decode cX2_init 28 = .ok (.newarray .long, 2) := by decide +kernel
theorem dX2_init_30 : decode cX2_init 30 = .ok (.putfield 21, 3) := by decide +kernel
theorem dX2_init_33 : decode cX2_init 33 = .ok (.aload_n 0, 1) := by decide +kernel
theorem dX2_init_34 : decode cX2_init 34 = .ok (.bipush 10, 2) := by decide +kernel
theorem dX2_init_36 : decode cX2_init 36 = .ok (.newarray .int, 2) := by decide +kernel
theorem dX2_init_38 : decode cX2_init 38 = .ok (.putfield 25, 3) := by decide +kernel
theorem dX2_init_41 : decode cX2_init 41 = .ok (.aload_n 0, 1) := by decide +kernel
theorem dX2_init_42 : decode cX2_init 42 = .ok (.bipush 10, 2) := by decide +kernel
theorem dX2_init_44 : decode cX2_init 44 = .ok (.newarray .int, 2) := by decide +kernel
theorem dX2_init_46 : decode cX2_init 46 = .ok (.putfield 28, 3) := by decide +kernel
theorem dX2_init_49 : decode cX2_init 49 = .ok (.return_, 1) := by decide +kernel
theorem dX2_begin_0 : decode cX2_begin 0 = .ok (.aload_n 0, 1) := by decide +kernel
theorem dX2_begin_1 : decode cX2_begin 1 = .ok (.iload_n 1, 1) := by decide +kernel
theorem dX2_begin_2 : decode cX2_begin 2 = .ok (.putfield 31, 3) := by decide +kernel
theorem dX2_begin_5 : decode cX2_begin 5 = .ok (.aload_n 0, 1) := by decide +kernel
theorem dX2_begin_6 : decode cX2_begin 6 = .ok (.iload_n 2, 1) := by decide +kernel
theorem dX2_begin_7 : decode cX2_begin 7 = .ok (.putfield 35, 3) := by decide +kernel
theorem dX2_begin_10 : decode cX2_begin 10 = .ok (.aload_n 0, 1) := by decide +kernel
theorem dX2_begin_11 : decode cX2_begin 11 = .ok (.iconst 0, 1) := by decide +kernel
theorem dX2_begin_12 : decode cX2_begin 12 = .ok (.putfield 38, 3) := by decide +kernel
theorem dX2_begin_15 : decode cX2_begin 15 = .ok (.aload_n 0, 1) := by decide +kernel
theorem dX2_begin_16 : decode cX2_begin 16 = .ok (.getfield 9, 3) := by decide +kernel
theorem dX2_begin_19 : decode cX2_begin 19 = .ok (.iconst 0, 1) := by decide +kernel
theorem dX2_begin_20 : decode cX2_begin 20 = .ok (.invokestatic 41, 3) := by decide +kernel
theorem dX2_begin_23 : decode cX2_begin 23 = .ok (.aload_n 0, 1) := by decide +kernel
theorem dX2_begin_24 : decode cX2_begin 24 = .ok (.invokevirtual 47, 3) := by decide +kernel
theorem dX2_begin_27 : decode cX2_begin 27 = .ok (.return_, 1) := by decide +kernel
theorem dX2_standStill_0 : decode cX2_standStill 0 = .ok (.aload_n 0, 1) := by decide +kernel
theorem dX2_standStill_1 : decode cX2_standStill 1 = .ok (.iconst 0, 1) := by decide +kernel
theorem dX2_standStill_2 : decode cX2_standStill 2 = .ok (.putfield 50, 3) := by decide +kernel
theorem dX2_standStill_5 : decode cX2_standStill 5 = .ok (.aload_n 0, 1) := by decide +kernel
theorem dX2_standStill_6 : decode cX2_standStill 6 = .ok (.getfield 25, 3) := by decide +kernel
theorem dX2_standStill_9 : decode cX2_standStill 9 = .ok (.iconst 0, 1) := by decide +kernel
theorem dX2_standStill_10 : decode cX2_standStill 10 = .ok (.invokestatic 41, 3) := by decide +kernel
theorem dX2_standStill_13 : decode cX2_standStill 13 = .ok (.aload_n 0, 1) := by decide +kernel
theorem dX2_standStill_14 : decode cX2_standStill 14 = .ok (.getfield 28, 3) := by decide +kernel
theorem dX2_standStill_17 : decode cX2_standStill 17 = .ok (.iconst 0, 1) := by decide +kernel
theorem dX2_standStill_18 : decode cX2_standStill 18 = .ok (.invokestatic 41, 3) := by decide +kernel
theorem dX2_standStill_21 : decode cX2_standStill 21 = .ok (.return_, 1) := by decide +kernel
theorem dX2_copyFrom_0 : decode cX2_copyFrom 0 = .ok (.aload_n 0, 1) := by decide +kernel
theorem dX2_copyFrom_1 : decode cX2_copyFrom 1 = .ok (.aload_n 1, 1) := by decide +kernel
theorem dX2_copyFrom_2 : decode cX2_copyFrom 2 = .ok (.getfield 31, 3) := by decide +kernel
theorem dX2_copyFrom_5 : decode cX2_copyFrom 5 = .ok (.putfield 31, 3) := by decide +kernel
theorem dX2_copyFrom_8 : decode cX2_copyFrom 8 = .ok (.aload_n 0, 1) := by decide +kernel
theorem dX2_copyFrom_9 : decode cX2_copyFrom 9 = .ok (.aload_n 1, 1) := by decide +kernel
theorem dX2_copyFrom_10 : decode cX2_copyFrom 10 = .ok (.getfield 35, 3) := by decide +kernel
theorem dX2_copyFrom_13 : decode cX2_copyFrom 13 = .ok (.putfield 35, 3) := by decide +kernel
theorem dX2_copyFrom_16 : decode cX2_copyFrom 16 = .ok (.aload_n 0, 1) := by decide +kernel
theorem dX2_copyFrom_17 : decode cX2_copyFrom 17 = .ok (.aload_n 1, 1) := by decide +kernel
theorem dX2_copyFrom_18 : decode cX2_copyFrom 18 = .ok (.getfield 50, 3) := by decide +kernel
theorem dX2_copyFrom_21 : decode cX2_copyFrom 21 = .ok (.putfield 50, 3) := by decide +kernel
theorem dX2_copyFrom_24 : decode cX2_copyFrom 24 = .ok (.aload_n 0, 1) := by decide +kernel
theorem dX2_copyFrom_25 : decode cX2_copyFrom 25 = .ok (.aload_n 1, 1) := by decide +kernel
theorem dX2_copyFrom_26 : decode cX2_copyFrom 26 = .ok (.getfield 38, 3) := by decide +kernel
theorem dX2_copyFrom_29 : decode cX2_copyFrom 29 = .ok (.putfield 38, 3) := by decide +kernel
theorem dX2_copyFrom_32 : decode cX2_copyFrom 32 = .ok (.aload_n 1, 1) := by decide +kernel
theorem dX2_copyFrom_33 : decode cX2_copyFrom 33 = .ok (.getfield 9, 3) := by decide +kernel
theorem dX2_copyFrom_36 : decode cX2_copyFrom 36 = .ok (.iconst 0, 1) := by decide +kernel
theorem dX2_copyFrom_37 : decode cX2_copyFrom 37 = .ok (.aload_n 0, 1) := by decide +kernel
theorem dX2_copyFrom_38 : decode cX2_copyFrom 38 = .ok (.getfield 9, 3) := by decide +kernel
theorem dX2_copyFrom_41 : decode cX2_copyFrom 41 = .ok (.iconst 0, 1) := by decide +kernel
theorem dX2_copyFrom_42 : decode cX2_copyFrom 42 = .ok (.bipush 36, 2) := by decide +kernel
theorem dX2_copyFrom_44 : decode cX2_copyFrom 44 = .ok (.invokestatic 53, 3) := by decide +kernel
theorem dX2_copyFrom_47 : decode cX2_copyFrom 47 = .ok (.aload_n 1, 1) := by decide +kernel
theorem dX2_copyFrom_48 : decode cX2_copyFrom 48 = .ok (.getfield 15, 3) := by decide +kernel
theorem dX2_copyFrom_51 : decode cX2_copyFrom 51 = .ok (.iconst 0, 1) := by decide +kernel
theorem dX2_copyFrom_52 : decode cX2_copyFrom 52 = .ok (.aload_n 0, 1) := by decide +kernel
theorem dX2_copyFrom_53 : decode cX2_copyFrom 53 = .ok (.getfield 15, 3) := by decide +kernel
theorem dX2_copyFrom_56 : decode cX2_copyFrom 56 = .ok (.iconst 0, 1) := by decide +kernel
theorem dX2_copyFrom_57 : decode cX2_copyFrom 57 = .ok (.iconst 5, 1) := by decide +kernel
theorem dX2_copyFrom_58 : decode cX2_copyFrom 58 = .ok (.invokestatic 53, 3) := by decide +kernel
theorem dX2_copyFrom_61 : decode cX2_copyFrom 61 = .ok (.aload_n 1, 1) := by decide +kernel
theorem dX2_copyFrom_62 : decode cX2_copyFrom 62 = .ok (.getfield 18, 3) := by decide +kernel
theorem dX2_copyFrom_65 : decode cX2_copyFrom 65 = .ok (.iconst 0, 1) := by decide +kernel
theorem dX2_copyFrom_66 : decode cX2_copyFrom 66 = .ok (.aload_n 0, 1) := by decide +kernel
theorem dX2_copyFrom_67 : decode cX2_copyFrom 67 = .ok (.getfield 18, 3) := by decide +kernel
theorem dX2_copyFrom_70 : decode cX2_copyFrom 70 = .ok (.iconst 0, 1) := by decide +kernel
theorem dX2_copyFrom_71 : decode cX2_copyFrom 71 = .ok (.iconst 5, 1) := by decide +kernel
theorem dX2_copyFrom_72 : decode cX2_copyFrom 72 = .ok (.invokestatic 53, 3) := by decide +kernel
theorem dX2_copyFrom_75 : decode cX2_copyFrom 75 = .ok (.aload_n 1, 1) := by decide +kernel
theorem dX2_copyFrom_76 : decode cX2_copyFrom 76 = .ok (.getfield 21, 3) := by decide +kernel
theorem dX2_copyFrom_79 : decode cX2_copyFrom 79 = .ok (.iconst 0, 1) := by decide +kernel
theorem dX2_copyFrom_80 : decode cX2_copyFrom 80 = .ok (.aload_n 0, 1) := by decide +kernel
theorem dX2_copyFrom_81 : decode cX2_copyFrom 81 = .ok (.getfield 21, 3) := by decide +kernel
theorem dX2_copyFrom_84 : decode cX2_copyFrom 84 = .ok (.iconst 0, 1) := by decide +kernel
theorem dX2_copyFrom_85 : decode cX2_copyFrom 85 = .ok (.iconst 5, 1) := by decide +kernel
theorem dX2_copyFrom_86 : decode cX2_copyFrom 86 = .ok (.invokestatic 53, 3) := by decide +kernel
theorem dX2_copyFrom_89 : decode cX2_copyFrom 89 = .ok (.aload_n 1, 1) := by decide +kernel
theorem dX2_copyFrom_90 : decode cX2_copyFrom 90 = .ok (.getfield 25, 3) := by decide +kernel
theorem dX2_copyFrom_93 : decode cX2_copyFrom 93 = .ok (.iconst 0, 1) := by decide +kernel
theorem dX2_copyFrom_94 : decode cX2_copyFrom 94 = .ok (.aload_n 0, 1) := by decide +kernel
theorem dX2_copyFrom_95 : decode cX2_copyFrom 95 = .ok (.getfield 25, 3) := by decide +kernel
theorem dX2_copyFrom_98 : decode cX2_copyFrom 98 = .ok (.iconst 0, 1) := by decide +kernel
theorem dX2_copyFrom_99 : decode cX2_copyFrom 99 = .ok (.bipush 10, 2) := by decide +kernel
theorem dX2_copyFrom_101 : decode cX2_copyFrom 101 = .ok (.invokestatic 53, 3) := by decide +kernel
theorem dX2_copyFrom_104 : decode cX2_copyFrom 104 = .ok (.aload_n 1, 1) := by decide +kernel
theorem dX2_copyFrom_105 : decode cX2_copyFrom 105 = .ok (.getfield 28, 3) := by decide +kernel
theorem dX2_copyFrom_108 : decode cX2_copyFrom 108 = .ok (.iconst 0, 1) := by decide +kernel
theorem dX2_copyFrom_109 : decode cX2_copyFrom 109 = .ok (.aload_n 0, 1) := by decide +kernel
theorem dX2_copyFrom_110 : decode cX2_copyFrom 110 = .ok (.getfield 28, 3) := by decide +kernel
theorem dX2_copyFrom_113 : decode cX2_copyFrom 113 = .ok (.iconst 0, 1) := by decide +kernel
theorem dX2_copyFrom_114 : decode cX2_copyFrom 114 = .ok (.bipush 10, 2) := by decide +kernel
theorem dX2_copyFrom_116 : decode cX2_copyFrom 116 = .ok (.invokestatic 53, 3) := by decide +kernel
theorem dX2_copyFrom_119 : decode cX2_copyFrom 119 = .ok (.return_, 1) := by decide +kernel
theorem dX2_addMessage_0 : decode cX2_addMessage 0 = .ok (.aload_n 0, 1) := by decide +kernel
theorem dX2_addMessage_1 : decode cX2_addMessage 1 = .ok (.getfield 38, 3) := by decide +kernel
theorem dX2_addMessage_4 : decode cX2_addMessage 4 = .ok (.istore_n 3, 1) := by decide +kernel
theorem dX2_addMessage_5 : decode cX2_addMessage 5 = .ok (.iload_n 3, 1) := by decide +kernel
theorem dX2_addMessage_6 : decode cX2_addMessage 6 = .ok (.iconst 5, 1) := by decide +kernel
theorem dX2_addMessage_7 : decode cX2_addMessage 7 = .ok (.if_icmp .lt 6, 3) := by decide +kernel
theorem dX2_addMessage_10 : decode cX2_addMessage 10 = .ok (.bipush (-4), 2) := by decide +kernel
theorem dX2_addMessage_12 : decode cX2_addMessage 12 = .ok (.ireturn, 1) := by decide +kernel
theorem dX2_addMessage_13 : decode cX2_addMessage 13 = .ok (.aload_n 0, 1) := by decide +kernel
theorem dX2_addMessage_14 : decode cX2_addMessage 14 = .ok (.getfield 15, 3) := by decide +kernel
theorem dX2_addMessage_17 : decode cX2_addMessage 17 = .ok (.iload_n 3, 1) := by decide +kernel
theorem dX2_addMessage_18 : decode cX2_addMessage 18 = .ok (.iload_n 1, 1) := by decide +kernel
theorem dX2_addMessage_19 : decode cX2_addMessage 19 = .ok (.iastore, 1) := by decide +kernel
theorem dX2_addMessage_20 : decode cX2_addMessage 20 = .ok (.aload_n 0, 1) := by decide +kernel
theorem dX2_addMessage_21 : decode cX2_addMessage 21 = .ok (.getfield 18, 3) := by decide +kernel
theorem dX2_addMessage_24 : decode cX2_addMessage 24 = .ok (.iload_n 3, 1) := by decide +kernel
theorem dX2_addMessage_25 : decode cX2_addMessage 25 = .ok (.iload_n 2, 1) := by decide +kernel
theorem dX2_addMessage_26 : decode cX2_addMessage 26 = .ok (.iastore, 1) := by decide +kernel
theorem dX2_addMessage_27 : decode cX2_addMessage 27 = .ok (.aload_n 0, 1) := by decide +kernel
theorem dX2_addMessage_28 : decode cX2_addMessage 28 = .ok (.getfield 21, 3) := by decide +kernel
theorem dX2_addMessage_31 : decode cX2_addMessage 31 = .ok (.iload_n 3, 1) := by decide +kernel
theorem dX2_addMessage_32 : decode cX2_addMessage 32 = .ok (.lconst 0, 1) := by decide +kernel
theorem dX2_addMessage_33 : decode cX2_addMessage 33 = .ok (.lastore, 1) := by decide +kernel
theorem dX2_addMessage_34 : decode cX2_addMessage 34 = .ok (.iload_n 3, 1) := by decide +kernel
theorem dX2_addMessage_35 : decode cX2_addMessage 35 = .ok (.iconst 2, 1) := by decide +kernel
theorem dX2_addMessage_36 : decode cX2_addMessage 36 = .ok (.imul, 1) := by decide +kernel
theorem dX2_addMessage_37 : decode cX2_addMessage 37 = .ok (.istore 4, 2) := by decide +kernel
theorem dX2_addMessage_39 : decode cX2_addMessage 39 = .ok (.iload 4, 2) := by decide +kernel
theorem dX2_addMessage_41 : decode cX2_addMessage 41 = .ok (.iload_n 3, 1) := by decide +kernel
theorem dX2_addMessage_42 : decode cX2_addMessage 42 = .ok (.iconst 2, 1) := by decide +kernel
theorem dX2_addMessage_43 : decode cX2_addMessage 43 = .ok (.imul, 1) := by decide +kernel
theorem dX2_addMessage_44 : decode cX2_addMessage 44 = .ok (.iconst 2, 1) := by decide +kernel
theorem dX2_addMessage_45 : decode cX2_addMessage 45 = .ok (.iadd, 1) := by decide +kernel
theorem dX2_addMessage_46 : decode cX2_addMessage 46 = .ok (.if_icmp .ge 25, 3) := by decide +kernel
theorem dX2_addMessage_49 : decode cX2_addMessage 49 = .ok (.aload_n 0, 1) := by decide +kernel
theorem dX2_addMessage_50 : decode cX2_addMessage 50 = .ok (.getfield 25, 3) := by decide +kernel
theorem dX2_addMessage_53 : decode cX2_addMessage 53 = .ok (.iload 4, 2) := by decide +kernel
theorem dX2_addMessage_55 : decode cX2_addMessage 55 = .ok (.iconst 0, 1) := by decide +kernel
theorem dX2_addMessage_56 : decode cX2_addMessage 56 = .ok (.iastore, 1) := by decide +kernel
theorem dX2_addMessage_57 : decode cX2_addMessage 57 = .ok (.aload_n 0, 1) := by decide +kernel
theorem dX2_addMessage_58 : decode cX2_addMessage 58 = .ok (.getfield 28, 3) := by decide +kernel
theorem dX2_addMessage_61 : decode cX2_addMessage 61 = .ok (.iload 4, 2) := by decide +kernel
theorem dX2_addMessage_63 : decode cX2_addMessage 63 = .ok (.iconst 0, 1) := by decide +kernel
theorem dX2_addMessage_64 : decode cX2_addMessage 64 = .ok (.iastore, 1) := by decide +kernel
theorem dX2_addMessage_65 : decode cX2_addMessage 65 = .ok (.iinc 4 1, 3) := by decide +kernel
theorem dX2_addMessage_68 : decode cX2_addMessage 68 = .ok (.goto (-29), 3) := by decide +kernel
theorem dX2_addMessage_71 : decode cX2_addMessage 71 = .ok (.aload_n 0, 1) := by decide +kernel
theorem dX2_addMessage_72 : decode cX2_addMessage 72 = .ok (.dup, 1) := by decide +kernel
theorem dX2_addMessage_73 : decode cX2_addMessage 73 = .ok (.getfield 38, 3) := by decide +kernel
theorem dX2_addMessage_76 : decode cX2_addMessage 76 = .ok (.iconst 1, 1) := by decide +kernel
theorem dX2_addMessage_77 : decode cX2_addMessage 77 = .ok (.iadd, 1) := by decide +kernel
theorem dX2_addMessage_78 : decode cX2_addMessage 78 = .ok (.putfield 38, 3) := by decide +kernel
theorem dX2_addMessage_81 : decode cX2_addMessage 81 = .ok (.iload_n 3, 1) := by decide +kernel
theorem dX2_addMessage_82 : decode cX2_addMessage 82 = .ok (.ireturn, 1) := by decide +kernel
theorem dX2_worms_0 : decode cX2_worms 0 = .ok (.aload_n 0, 1) := by decide +kernel
theorem dX2_worms_1 : decode cX2_worms 1 = .ok (.getfield 38, 3) := by decide +kernel
theorem dX2_worms_4 : decode cX2_worms 4 = .ok (.iconst 2, 1) := by decide +kernel
theorem dX2_worms_5 : decode cX2_worms 5 = .ok (.imul, 1) := by decide +kernel
theorem dX2_worms_6 : decode cX2_worms 6 = .ok (.ireturn, 1) := by decide +kernel
theorem dX2_lengthOf_0 : decode cX2_lengthOf 0 = .ok (.aload_n 0, 1) := by decide +kernel
theorem dX2_lengthOf_1 : decode cX2_lengthOf 1 = .ok (.getfield 18, 3) := by decide +kernel
theorem dX2_lengthOf_4 : decode cX2_lengthOf 4 = .ok (.iload_n 1, 1) := by decide +kernel
theorem dX2_lengthOf_5 : decode cX2_lengthOf 5 = .ok (.iconst 1, 1) := by decide +kernel
theorem dX2_lengthOf_6 : decode cX2_lengthOf 6 = .ok (.ishr, 1) := by decide +kernel
theorem dX2_lengthOf_7 : decode cX2_lengthOf 7 = .ok (.iaload, 1) := by decide +kernel
theorem dX2_lengthOf_8 : decode cX2_lengthOf 8 = .ok (.ireturn, 1) := by decide +kernel
theorem dX2_sourceOf_0 : decode cX2_sourceOf 0 = .ok (.aload_n 0, 1) := by decide +kernel
theorem dX2_sourceOf_1 : decode cX2_sourceOf 1 = .ok (.getfield 15, 3) := by decide +kernel
theorem dX2_sourceOf_4 : decode cX2_sourceOf 4 = .ok (.iload_n 1, 1) := by decide +kernel
theorem dX2_sourceOf_5 : decode cX2_sourceOf 5 = .ok (.iconst 1, 1) := by decide +kernel
theorem dX2_sourceOf_6 : decode cX2_sourceOf 6 = .ok (.ishr, 1) := by decide +kernel
theorem dX2_sourceOf_7 : decode cX2_sourceOf 7 = .ok (.iaload, 1) := by decide +kernel
theorem dX2_sourceOf_8 : decode cX2_sourceOf 8 = .ok (.ireturn, 1) := by decide +kernel
theorem dX2_rises_0 : decode cX2_rises 0 = .ok (.iload_n 1, 1) := by decide +kernel
theorem dX2_rises_1 : decode cX2_rises 1 = .ok (.iconst 1, 1) := by decide +kernel
theorem dX2_rises_2 : decode cX2_rises 2 = .ok (.iand, 1) := by decide +kernel
theorem dX2_rises_3 : decode cX2_rises 3 = .ok (.ifCond .ne 7, 3) := by decide +kernel
theorem dX2_rises_6 : decode cX2_rises 6 = .ok (.iconst 1, 1) := by decide +kernel
theorem dX2_rises_7 : decode cX2_rises 7 = .ok (.goto 4, 3) := by decide +kernel
theorem dX2_rises_10 : decode cX2_rises 10 = .ok (.iconst 0, 1) := by decide +kernel
theorem dX2_rises_11 : decode cX2_rises 11 = .ok (.ireturn, 1) := by decide +kernel
theorem dX2_goalsOfWorm_0 : decode cX2_goalsOfWorm 0 = .ok (.lconst 1, 1) := by decide +kernel
theorem dX2_goalsOfWorm_1 : decode cX2_goalsOfWorm 1 = .ok (.aload_n 0, 1) := by decide +kernel
theorem dX2_goalsOfWorm_2 : decode cX2_goalsOfWorm 2 = .ok (.iload_n 1, 1) := by decide +kernel
theorem dX2_goalsOfWorm_3 : decode cX2_goalsOfWorm 3 = .ok (.invokevirtual 59, 3) := by decide +kernel
theorem dX2_goalsOfWorm_6 : decode cX2_goalsOfWorm 6 = .ok (.lshl, 1) := by decide +kernel
theorem dX2_goalsOfWorm_7 : decode cX2_goalsOfWorm 7 = .ok (.lconst 1, 1) := by decide +kernel
theorem dX2_goalsOfWorm_8 : decode cX2_goalsOfWorm 8 = .ok (.lsub, 1) := by decide +kernel
theorem dX2_goalsOfWorm_9 : decode cX2_goalsOfWorm 9 = .ok (.lstore_n 2, 1) := by decide +kernel
theorem dX2_goalsOfWorm_10 : decode cX2_goalsOfWorm 10 = .ok (.aload_n 0, 1) := by decide +kernel
theorem dX2_goalsOfWorm_11 : decode cX2_goalsOfWorm 11 = .ok (.getfield 21, 3) := by decide +kernel
theorem dX2_goalsOfWorm_14 : decode cX2_goalsOfWorm 14 = .ok (.iload_n 1, 1) := by decide +kernel
theorem dX2_goalsOfWorm_15 : decode cX2_goalsOfWorm 15 = .ok (.iconst 1, 1) := by decide +kernel
theorem dX2_goalsOfWorm_16 : decode cX2_goalsOfWorm 16 = .ok (.ishr, 1) := by decide +kernel
theorem dX2_goalsOfWorm_17 : decode cX2_goalsOfWorm 17 = .ok (.laload, 1) := by decide +kernel
theorem dX2_goalsOfWorm_18 : decode cX2_goalsOfWorm 18 = .ok (.aload_n 0, 1) := by decide +kernel
theorem dX2_goalsOfWorm_19 : decode cX2_goalsOfWorm 19 = .ok (.iload_n 1, 1) := by decide +kernel
theorem dX2_goalsOfWorm_20 : decode cX2_goalsOfWorm 20 = .ok (.invokevirtual 63, 3) := by decide +kernel
theorem dX2_goalsOfWorm_23 : decode cX2_goalsOfWorm 23 = .ok (.ifCond .eq 11, 3) := by decide +kernel
theorem dX2_goalsOfWorm_26 : decode cX2_goalsOfWorm 26 = .ok (.lload_n 2, 1) := by decide +kernel
theorem dX2_goalsOfWorm_27 : decode cX2_goalsOfWorm 27 = .ok (.ldc2_w 67, 3) := by decide +kernel
theorem dX2_goalsOfWorm_30 : decode cX2_goalsOfWorm 30 = .ok (.lxor, 1) := by decide +kernel
theorem dX2_goalsOfWorm_31 : decode cX2_goalsOfWorm 31 = .ok (.goto 4, 3) := by decide +kernel
theorem dX2_goalsOfWorm_34 : decode cX2_goalsOfWorm 34 = .ok (.lload_n 2, 1) := by decide +kernel
theorem dX2_goalsOfWorm_35 : decode cX2_goalsOfWorm 35 = .ok (.land, 1) := by decide +kernel
theorem dX2_goalsOfWorm_36 : decode cX2_goalsOfWorm 36 = .ok (.lreturn, 1) := by decide +kernel
theorem dX2_isDown_0 : decode cX2_isDown 0 = .ok (.iload_n 1, 1) := by decide +kernel
theorem dX2_isDown_1 : decode cX2_isDown 1 = .ok (.ifCond .lt 31, 3) := by decide +kernel
theorem dX2_isDown_4 : decode cX2_isDown 4 = .ok (.iload_n 1, 1) := by decide +kernel
theorem dX2_isDown_5 : decode cX2_isDown 5 = .ok (.sipush 144, 3) := by decide +kernel
theorem dX2_isDown_8 : decode cX2_isDown 8 = .ok (.if_icmp .ge 24, 3) := by decide +kernel
theorem dX2_isDown_11 : decode cX2_isDown 11 = .ok (.aload_n 0, 1) := by decide +kernel
theorem dX2_isDown_12 : decode cX2_isDown 12 = .ok (.getfield 9, 3) := by decide +kernel
theorem dX2_isDown_15 : decode cX2_isDown 15 = .ok (.iload_n 1, 1) := by decide +kernel
theorem dX2_isDown_16 : decode cX2_isDown 16 = .ok (.iconst 2, 1) := by decide +kernel
theorem dX2_isDown_17 : decode cX2_isDown 17 = .ok (.ishr, 1) := by decide +kernel
theorem dX2_isDown_18 : decode cX2_isDown 18 = .ok (.iaload, 1) := by decide +kernel
theorem dX2_isDown_19 : decode cX2_isDown 19 = .ok (.iload_n 1, 1) := by decide +kernel
theorem dX2_isDown_20 : decode cX2_isDown 20 = .ok (.iconst 3, 1) := by decide +kernel
theorem dX2_isDown_21 : decode cX2_isDown 21 = .ok (.iand, 1) := by decide +kernel
theorem dX2_isDown_22 : decode cX2_isDown 22 = .ok (.ishr, 1) := by decide +kernel
theorem dX2_isDown_23 : decode cX2_isDown 23 = .ok (.iconst 1, 1) := by decide +kernel
theorem dX2_isDown_24 : decode cX2_isDown 24 = .ok (.iand, 1) := by decide +kernel
theorem dX2_isDown_25 : decode cX2_isDown 25 = .ok (.ifCond .eq 7, 3) := by decide +kernel
theorem dX2_isDown_28 : decode cX2_isDown 28 = .ok (.iconst 1, 1) := by decide +kernel
theorem dX2_isDown_29 : decode cX2_isDown 29 = .ok (.goto 4, 3) := by decide +kernel
theorem dX2_isDown_32 : decode cX2_isDown 32 = .ok (.iconst 0, 1) := by decide +kernel
theorem dX2_isDown_33 : decode cX2_isDown 33 = .ok (.ireturn, 1) := by decide +kernel
theorem dX2_turn_0 : decode cX2_turn 0 = .ok (.iload_n 1, 1) := by decide +kernel
theorem dX2_turn_1 : decode cX2_turn 1 = .ok (.ifCond .lt 26, 3) := by decide +kernel
theorem dX2_turn_4 : decode cX2_turn 4 = .ok (.iload_n 1, 1) := by decide +kernel
theorem dX2_turn_5 : decode cX2_turn 5 = .ok (.sipush 144, 3) := by decide +kernel
theorem dX2_turn_8 : decode cX2_turn 8 = .ok (.if_icmp .ge 19, 3) := by decide +kernel
theorem dX2_turn_11 : decode cX2_turn 11 = .ok (.aload_n 0, 1) := by decide +kernel
theorem dX2_turn_12 : decode cX2_turn 12 = .ok (.getfield 9, 3) := by decide +kernel
theorem dX2_turn_15 : decode cX2_turn 15 = .ok (.iload_n 1, 1) := by decide +kernel
theorem dX2_turn_16 : decode cX2_turn 16 = .ok (.iconst 2, 1) := by decide +kernel
theorem dX2_turn_17 : decode cX2_turn 17 = .ok (.ishr, 1) := by decide +kernel
theorem dX2_turn_18 : decode cX2_turn 18 = .ok (.dup2, 1) := by decide +kernel
theorem dX2_turn_19 : decode cX2_turn 19 = .ok (.iaload, 1) := by decide +kernel
theorem dX2_turn_20 : decode cX2_turn 20 = .ok (.iconst 1, 1) := by decide +kernel
theorem dX2_turn_21 : decode cX2_turn 21 = .ok (.iload_n 1, 1) := by decide +kernel
theorem dX2_turn_22 : decode cX2_turn 22 = .ok (.iconst 3, 1) := by decide +kernel
theorem dX2_turn_23 : decode cX2_turn 23 = .ok (.iand, 1) := by decide +kernel
theorem dX2_turn_24 : decode cX2_turn 24 = .ok (.ishl, 1) := by decide +kernel
theorem dX2_turn_25 : decode cX2_turn 25 = .ok (.ixor, 1) := by decide +kernel
theorem dX2_turn_26 : decode cX2_turn 26 = .ok (.iastore, 1) := by decide +kernel
theorem dX2_turn_27 : decode cX2_turn 27 = .ok (.return_, 1) := by decide +kernel
theorem dX2_channelsDown_0 : decode cX2_channelsDown 0 = .ok (.iconst 0, 1) := by decide +kernel
theorem dX2_channelsDown_1 : decode cX2_channelsDown 1 = .ok (.istore_n 1, 1) := by decide +kernel
theorem dX2_channelsDown_2 : decode cX2_channelsDown 2 = .ok (.iconst 0, 1) := by decide +kernel
theorem dX2_channelsDown_3 : decode cX2_channelsDown 3 = .ok (.istore_n 2, 1) := by decide +kernel
theorem dX2_channelsDown_4 : decode cX2_channelsDown 4 = .ok (.iload_n 2, 1) := by decide +kernel
theorem dX2_channelsDown_5 : decode cX2_channelsDown 5 = .ok (.bipush 36, 2) := by decide +kernel
theorem dX2_channelsDown_7 : decode cX2_channelsDown 7 = .ok (.if_icmp .ge 21, 3) := by decide +kernel
theorem dX2_channelsDown_10 : decode cX2_channelsDown 10 = .ok (.iload_n 1, 1) := by decide +kernel
theorem dX2_channelsDown_11 : decode cX2_channelsDown 11 = .ok (.aload_n 0, 1) := by decide +kernel
theorem dX2_channelsDown_12 : decode cX2_channelsDown 12 = .ok (.getfield 9, 3) := by decide +kernel
theorem dX2_channelsDown_15 : decode cX2_channelsDown 15 = .ok (.iload_n 2, 1) := by decide +kernel
theorem dX2_channelsDown_16 : decode cX2_channelsDown 16 = .ok (.iaload, 1) := by decide +kernel
theorem dX2_channelsDown_17 : decode cX2_channelsDown 17 = .ok (.invokestatic 69, 3) := by decide +kernel
theorem dX2_channelsDown_20 : decode cX2_channelsDown 20 = .ok (.iadd, 1) := by decide +kernel
theorem dX2_channelsDown_21 : decode cX2_channelsDown 21 = .ok (.istore_n 1, 1) := by decide +kernel
theorem dX2_channelsDown_22 : decode cX2_channelsDown 22 = .ok (.iinc 2 1, 3) := by decide +kernel
theorem dX2_channelsDown_25 : decode cX2_channelsDown 25 = .ok (.goto (-21), 3) := by decide +kernel
theorem dX2_channelsDown_28 : decode cX2_channelsDown 28 = .ok (.iload_n 1, 1) := by decide +kernel
theorem dX2_channelsDown_29 : decode cX2_channelsDown 29 = .ok (.ireturn, 1) := by decide +kernel
theorem dX2_waitedInAll_0 : decode cX2_waitedInAll 0 = .ok (.iconst 0, 1) := by decide +kernel
theorem dX2_waitedInAll_1 : decode cX2_waitedInAll 1 = .ok (.istore_n 1, 1) := by decide +kernel
theorem dX2_waitedInAll_2 : decode cX2_waitedInAll 2 = .ok (.iconst 0, 1) := by decide +kernel
theorem dX2_waitedInAll_3 : decode cX2_waitedInAll 3 = .ok (.istore_n 2, 1) := by decide +kernel
theorem dX2_waitedInAll_4 : decode cX2_waitedInAll 4 = .ok (.iload_n 2, 1) := by decide +kernel
theorem dX2_waitedInAll_5 : decode cX2_waitedInAll 5 = .ok (.aload_n 0, 1) := by decide +kernel
theorem dX2_waitedInAll_6 : decode cX2_waitedInAll 6 = .ok (.invokevirtual 74, 3) := by decide +kernel
theorem dX2_waitedInAll_9 : decode cX2_waitedInAll 9 = .ok (.if_icmp .ge 18, 3) := by decide +kernel
theorem dX2_waitedInAll_12 : decode cX2_waitedInAll 12 = .ok (.iload_n 1, 1) := by decide +kernel
theorem dX2_waitedInAll_13 : decode cX2_waitedInAll 13 = .ok (.aload_n 0, 1) := by decide +kernel
theorem dX2_waitedInAll_14 : decode cX2_waitedInAll 14 = .ok (.getfield 28, 3) := by decide +kernel
theorem dX2_waitedInAll_17 : decode cX2_waitedInAll 17 = .ok (.iload_n 2, 1) := by decide +kernel
theorem dX2_waitedInAll_18 : decode cX2_waitedInAll 18 = .ok (.iaload, 1) := by decide +kernel
theorem dX2_waitedInAll_19 : decode cX2_waitedInAll 19 = .ok (.iadd, 1) := by decide +kernel
theorem dX2_waitedInAll_20 : decode cX2_waitedInAll 20 = .ok (.istore_n 1, 1) := by decide +kernel
theorem dX2_waitedInAll_21 : decode cX2_waitedInAll 21 = .ok (.iinc 2 1, 3) := by decide +kernel
theorem dX2_waitedInAll_24 : decode cX2_waitedInAll 24 = .ok (.goto (-20), 3) := by decide +kernel
theorem dX2_waitedInAll_27 : decode cX2_waitedInAll 27 = .ok (.iload_n 1, 1) := by decide +kernel
theorem dX2_waitedInAll_28 : decode cX2_waitedInAll 28 = .ok (.ireturn, 1) := by decide +kernel
theorem dX3_init_0 : decode cX3_init 0 = .ok (.aload_n 0, 1) := by decide +kernel
theorem dX3_init_1 : decode cX3_init 1 = .ok (.invokespecial 3, 3) := by decide +kernel
theorem dX3_init_4 : decode cX3_init 4 = .ok (.aload_n 0, 1) := by decide +kernel
theorem dX3_init_5 : decode cX3_init 5 = .ok (.bipush 120, 2) := by decide +kernel
theorem dX3_init_7 : decode cX3_init 7 = .ok (.newarray .int, 2) := by decide +kernel
theorem dX3_init_9 : decode cX3_init 9 = .ok (.putfield 9, 3) := by decide +kernel
theorem dX3_init_12 : decode cX3_init 12 = .ok (.aload_n 0, 1) := by decide +kernel
theorem dX3_init_13 : decode cX3_init 13 = .ok (.bipush 60, 2) := by decide +kernel
theorem dX3_init_15 : decode cX3_init 15 = .ok (.newarray .int, 2) := by decide +kernel
theorem dX3_init_17 : decode cX3_init 17 = .ok (.putfield 15, 3) := by decide +kernel
theorem dX3_init_20 : decode cX3_init 20 = .ok (.aload_n 0, 1) := by decide +kernel
theorem dX3_init_21 : decode cX3_init 21 = .ok (.sipush 180, 3) := by decide +kernel
theorem dX3_init_24 : decode cX3_init 24 = .ok (.newarray .int, 2) := by decide +kernel
theorem dX3_init_26 : decode cX3_init 26 = .ok (.putfield 18, 3) := by decide +kernel
theorem dX3_init_29 : decode cX3_init 29 = .ok (.return_, 1) := by decide +kernel
theorem dX3_add_0 : decode cX3_add 0 = .ok (.aload_n 0, 1) := by decide +kernel
theorem dX3_add_1 : decode cX3_add 1 = .ok (.getfield 21, 3) := by decide +kernel
theorem dX3_add_4 : decode cX3_add 4 = .ok (.bipush 120, 2) := by decide +kernel
theorem dX3_add_6 : decode cX3_add 6 = .ok (.if_icmp .lt 5, 3) := by decide +kernel
theorem dX3_add_9 : decode cX3_add 9 = .ok (.iconst 0, 1) := by decide +kernel
theorem dX3_add_10 : decode cX3_add 10 = .ok (.ireturn, 1) := by decide +kernel
theorem dX3_add_11 : decode cX3_add 11 = .ok (.aload_n 0, 1) := by decide +kernel
theorem dX3_add_12 : decode cX3_add 12 = .ok (.getfield 9, 3) := by decide +kernel
theorem dX3_add_15 : decode cX3_add 15 = .ok (.aload_n 0, 1) := by decide +kernel
theorem dX3_add_16 : decode cX3_add 16 = .ok (.getfield 21, 3) := by decide +kernel
theorem dX3_add_19 : decode cX3_add 19 = .ok (.iload_n 1, 1) := by decide +kernel
theorem dX3_add_20 : decode cX3_add 20 = .ok (.iastore, 1) := by decide +kernel
theorem dX3_add_21 : decode cX3_add 21 = .ok (.aload_n 0, 1) := by decide +kernel
theorem dX3_add_22 : decode cX3_add 22 = .ok (.dup, 1) := by decide +kernel
theorem dX3_add_23 : decode cX3_add 23 = .ok (.getfield 21, 3) := by decide +kernel
theorem dX3_add_26 : decode cX3_add 26 = .ok (.iconst 1, 1) := by decide +kernel
theorem dX3_add_27 : decode cX3_add 27 = .ok (.iadd, 1) := by decide +kernel
theorem dX3_add_28 : decode cX3_add 28 = .ok (.putfield 21, 3) := by decide +kernel
theorem dX3_add_31 : decode cX3_add 31 = .ok (.iconst 1, 1) := by decide +kernel
theorem dX3_add_32 : decode cX3_add 32 = .ok (.ireturn, 1) := by decide +kernel
theorem dX3_empty_0 : decode cX3_empty 0 = .ok (.aload_n 0, 1) := by decide +kernel
theorem dX3_empty_1 : decode cX3_empty 1 = .ok (.getfield 21, 3) := by decide +kernel
theorem dX3_empty_4 : decode cX3_empty 4 = .ok (.istore_n 1, 1) := by decide +kernel
theorem dX3_empty_5 : decode cX3_empty 5 = .ok (.aload_n 0, 1) := by decide +kernel
theorem dX3_empty_6 : decode cX3_empty 6 = .ok (.iconst 0, 1) := by decide +kernel
theorem dX3_empty_7 : decode cX3_empty 7 = .ok (.putfield 21, 3) := by decide +kernel
theorem dX3_empty_10 : decode cX3_empty 10 = .ok (.iload_n 1, 1) := by decide +kernel
theorem dX3_empty_11 : decode cX3_empty 11 = .ok (.ireturn, 1) := by decide +kernel
theorem dX3_size_0 : decode cX3_size 0 = .ok (.aload_n 0, 1) := by decide +kernel
theorem dX3_size_1 : decode cX3_size 1 = .ok (.getfield 21, 3) := by decide +kernel
theorem dX3_size_4 : decode cX3_size 4 = .ok (.ireturn, 1) := by decide +kernel
theorem dX3_orders_0 : decode cX3_orders 0 = .ok (.aload_n 0, 1) := by decide +kernel
theorem dX3_orders_1 : decode cX3_orders 1 = .ok (.getfield 25, 3) := by decide +kernel
theorem dX3_orders_4 : decode cX3_orders 4 = .ok (.ireturn, 1) := by decide +kernel
theorem dX3_letterOf_0 : decode cX3_letterOf 0 = .ok (.aload_n 0, 1) := by decide +kernel
theorem dX3_letterOf_1 : decode cX3_letterOf 1 = .ok (.getfield 15, 3) := by decide +kernel
theorem dX3_letterOf_4 : decode cX3_letterOf 4 = .ok (.iload_n 1, 1) := by decide +kernel
theorem dX3_letterOf_5 : decode cX3_letterOf 5 = .ok (.iaload, 1) := by decide +kernel
theorem dX3_letterOf_6 : decode cX3_letterOf 6 = .ok (.ireturn, 1) := by decide +kernel
theorem dX3_numberOf_0 : decode cX3_numberOf 0 = .ok (.aload_n 0, 1) := by decide +kernel
theorem dX3_numberOf_1 : decode cX3_numberOf 1 = .ok (.getfield 18, 3) := by decide +kernel
theorem dX3_numberOf_4 : decode cX3_numberOf 4 = .ok (.iload_n 1, 1) := by decide +kernel
theorem dX3_numberOf_5 : decode cX3_numberOf 5 = .ok (.iconst 3, 1) := by decide +kernel
theorem dX3_numberOf_6 : decode cX3_numberOf 6 = .ok (.imul, 1) := by decide +kernel
theorem dX3_numberOf_7 : decode cX3_numberOf 7 = .ok (.iload_n 2, 1) := by decide +kernel
theorem dX3_numberOf_8 : decode cX3_numberOf 8 = .ok (.iadd, 1) := by decide +kernel
theorem dX3_numberOf_9 : decode cX3_numberOf 9 = .ok (.iaload, 1) := by decide +kernel
theorem dX3_numberOf_10 : decode cX3_numberOf 10 = .ok (.ireturn, 1) := by decide +kernel
theorem dX3_read_0 : decode cX3_read 0 = .ok (.aload_n 0, 1) := by decide +kernel
theorem dX3_read_1 : decode cX3_read 1 = .ok (.iconst 0, 1) := by decide +kernel
theorem dX3_read_2 : decode cX3_read 2 = .ok (.putfield 25, 3) := by decide +kernel
theorem dX3_read_5 : decode cX3_read 5 = .ok (.aload_n 0, 1) := by decide +kernel
theorem dX3_read_6 : decode cX3_read 6 = .ok (.iconst 0, 1) := by decide +kernel
theorem dX3_read_7 : decode cX3_read 7 = .ok (.putfield 28, 3) := by decide +kernel
theorem dX3_read_10 : decode cX3_read 10 = .ok (.aload_n 0, 1) := by decide +kernel
theorem dX3_read_11 : decode cX3_read 11 = .ok (.invokevirtual 31, 3) := by decide +kernel
theorem dX3_read_14 : decode cX3_read 14 = .ok (.aload_n 0, 1) := by decide +kernel
theorem dX3_read_15 : decode cX3_read 15 = .ok (.getfield 25, 3) := by decide +kernel
theorem dX3_read_18 : decode cX3_read 18 = .ok (.bipush 60, 2) := by decide +kernel
theorem dX3_read_20 : decode cX3_read 20 = .ok (.if_icmp .ge 50, 3) := by decide +kernel
theorem dX3_read_23 : decode cX3_read 23 = .ok (.aload_n 0, 1) := by decide +kernel
theorem dX3_read_24 : decode cX3_read 24 = .ok (.getfield 28, 3) := by decide +kernel
theorem dX3_read_27 : decode cX3_read 27 = .ok (.aload_n 0, 1) := by decide +kernel
theorem dX3_read_28 : decode cX3_read 28 = .ok (.getfield 21, 3) := by decide +kernel
theorem dX3_read_31 : decode cX3_read 31 = .ok (.if_icmp .lt 10, 3) := by decide +kernel
theorem dX3_read_34 : decode cX3_read 34 = .ok (.aload_n 0, 1) := by decide +kernel
theorem dX3_read_35 : decode cX3_read 35 = .ok (.getfield 25, 3) := by decide +kernel
theorem dX3_read_38 : decode cX3_read 38 = .ok (.ifCond .ne 32, 3) := by decide +kernel
theorem dX3_read_41 : decode cX3_read 41 = .ok (.aload_n 0, 1) := by decide +kernel
theorem dX3_read_42 : decode cX3_read 42 = .ok (.invokevirtual 34, 3) := by decide +kernel
theorem dX3_read_45 : decode cX3_read 45 = .ok (.ifCond .ne 8, 3) := by decide +kernel
theorem dX3_read_48 : decode cX3_read 48 = .ok (.aload_n 0, 1) := by decide +kernel
theorem dX3_read_49 : decode cX3_read 49 = .ok (.getfield 28, 3) := by decide +kernel
theorem dX3_read_52 : decode cX3_read 52 = .ok (.ireturn, 1) := by decide +kernel
theorem dX3_read_53 : decode cX3_read 53 = .ok (.aload_n 0, 1) := by decide +kernel
theorem dX3_read_54 : decode cX3_read 54 = .ok (.dup, 1) := by decide +kernel
theorem dX3_read_55 : decode cX3_read 55 = .ok (.getfield 25, 3) := by decide +kernel
theorem dX3_read_58 : decode cX3_read 58 = .ok (.iconst 1, 1) := by decide +kernel
theorem dX3_read_59 : decode cX3_read 59 = .ok (.iadd, 1) := by decide +kernel
theorem dX3_read_60 : decode cX3_read 60 = .ok (.putfield 25, 3) := by decide +kernel
theorem dX3_read_63 : decode cX3_read 63 = .ok (.aload_n 0, 1) := by decide +kernel
theorem dX3_read_64 : decode cX3_read 64 = .ok (.invokevirtual 31, 3) := by decide +kernel
theorem dX3_read_67 : decode cX3_read 67 = .ok (.goto (-53), 3) := by decide +kernel
theorem dX3_read_70 : decode cX3_read 70 = .ok (.iconst (-1), 1) := by decide +kernel
theorem dX3_read_71 : decode cX3_read 71 = .ok (.ireturn, 1) := by decide +kernel
theorem dX3_readOrder_0 : decode cX3_readOrder 0 = .ok (.aload_n 0, 1) := by decide +kernel
theorem dX3_readOrder_1 : decode cX3_readOrder 1 = .ok (.invokevirtual 38, 3) := by decide +kernel
theorem dX3_readOrder_4 : decode cX3_readOrder 4 = .ok (.istore_n 1, 1) := by decide +kernel
theorem dX3_readOrder_5 : decode cX3_readOrder 5 = .ok (.iload_n 1, 1) := by decide +kernel
theorem dX3_readOrder_6 : decode cX3_readOrder 6 = .ok (.invokestatic 42, 3) := by decide +kernel
theorem dX3_readOrder_9 : decode cX3_readOrder 9 = .ok (.istore_n 2, 1) := by decide +kernel
theorem dX3_readOrder_10 : decode cX3_readOrder 10 = .ok (.iload_n 2, 1) := by decide +kernel
theorem dX3_readOrder_11 : decode cX3_readOrder 11 = .ok (.iconst (-1), 1) := by decide +kernel
theorem dX3_readOrder_12 : decode cX3_readOrder 12 = .ok (.if_icmp .ne 5, 3) := by decide +kernel
theorem dX3_readOrder_15 : decode cX3_readOrder 15 = .ok (.iconst 0, 1) := by decide +kernel
theorem dX3_readOrder_16 : decode cX3_readOrder 16 = .ok (.ireturn, 1) := by decide +kernel
theorem dX3_readOrder_17 : decode cX3_readOrder 17 = .ok (.aload_n 0, 1) := by decide +kernel
theorem dX3_readOrder_18 : decode cX3_readOrder 18 = .ok (.getfield 15, 3) := by decide +kernel
theorem dX3_readOrder_21 : decode cX3_readOrder 21 = .ok (.aload_n 0, 1) := by decide +kernel
theorem dX3_readOrder_22 : decode cX3_readOrder 22 = .ok (.getfield 25, 3) := by decide +kernel
theorem dX3_readOrder_25 : decode cX3_readOrder 25 = .ok (.iload_n 1, 1) := by decide +kernel
theorem dX3_readOrder_26 : decode cX3_readOrder 26 = .ok (.iastore, 1) := by decide +kernel
theorem dX3_readOrder_27 : decode cX3_readOrder 27 = .ok (.aload_n 0, 1) := by decide +kernel
theorem dX3_readOrder_28 : decode cX3_readOrder 28 = .ok (.dup, 1) := by decide +kernel
theorem dX3_readOrder_29 : decode cX3_readOrder 29 = .ok (.getfield 28, 3) := by decide +kernel
theorem dX3_readOrder_32 : decode cX3_readOrder 32 = .ok (.iconst 1, 1) := by decide +kernel
theorem dX3_readOrder_33 : decode cX3_readOrder 33 = .ok (.iadd, 1) := by decide +kernel
theorem dX3_readOrder_34 : decode cX3_readOrder 34 = .ok (.putfield 28, 3) := by decide +kernel
theorem dX3_readOrder_37 : decode cX3_readOrder 37 = .ok (.iconst 0, 1) := by decide +kernel
theorem dX3_readOrder_38 : decode cX3_readOrder 38 = .ok (.istore_n 3, 1) := by decide +kernel
theorem dX3_readOrder_39 : decode cX3_readOrder 39 = .ok (.iload_n 3, 1) := by decide +kernel
theorem dX3_readOrder_40 : decode cX3_readOrder 40 = .ok (.iconst 3, 1) := by decide +kernel
theorem dX3_readOrder_41 : decode cX3_readOrder 41 = .ok (.if_icmp .ge 23, 3) := by decide +kernel
theorem dX3_readOrder_44 : decode cX3_readOrder 44 = .ok (.aload_n 0, 1) := by decide +kernel
theorem dX3_readOrder_45 : decode cX3_readOrder 45 = .ok (.getfield 18, 3) := by decide +kernel
theorem dX3_readOrder_48 : decode cX3_readOrder 48 = .ok (.aload_n 0, 1) := by decide +kernel
theorem dX3_readOrder_49 : decode cX3_readOrder 49 = .ok (.getfield 25, 3) := by decide +kernel
theorem dX3_readOrder_52 : decode cX3_readOrder 52 = .ok (.iconst 3, 1) := by decide +kernel
theorem dX3_readOrder_53 : decode cX3_readOrder 53 = .ok (.imul, 1) := by decide +kernel
theorem dX3_readOrder_54 : decode cX3_readOrder 54 = .ok (.iload_n 3, 1) := by decide +kernel
theorem dX3_readOrder_55 : decode cX3_readOrder 55 = .ok (.iadd, 1) := by decide +kernel
theorem dX3_readOrder_56 : decode cX3_readOrder 56 = .ok (.iconst 0, 1) := by decide +kernel
theorem dX3_readOrder_57 : decode cX3_readOrder 57 = .ok (.iastore, 1) := by decide +kernel
theorem dX3_readOrder_58 : decode cX3_readOrder 58 = .ok (.iinc 3 1, 3) := by decide +kernel
theorem dX3_readOrder_61 : decode cX3_readOrder 61 = .ok (.goto (-22), 3) := by decide +kernel
theorem dX3_readOrder_64 : decode cX3_readOrder 64 = .ok (.iconst 0, 1) := by decide +kernel
theorem dX3_readOrder_65 : decode cX3_readOrder 65 = .ok (.istore_n 3, 1) := by decide +kernel
theorem dX3_readOrder_66 : decode cX3_readOrder 66 = .ok (.iload_n 3, 1) := by decide +kernel
theorem dX3_readOrder_67 : decode cX3_readOrder 67 = .ok (.iload_n 2, 1) := by decide +kernel
theorem dX3_readOrder_68 : decode cX3_readOrder 68 = .ok (.if_icmp .ge 30, 3) := by decide +kernel
theorem dX3_readOrder_71 : decode cX3_readOrder 71 = .ok (.aload_n 0, 1) := by decide +kernel
theorem dX3_readOrder_72 : decode cX3_readOrder 72 = .ok (.invokevirtual 31, 3) := by decide +kernel
theorem dX3_readOrder_75 : decode cX3_readOrder 75 = .ok (.aload_n 0, 1) := by decide +kernel
theorem dX3_readOrder_76 : decode cX3_readOrder 76 = .ok (.aload_n 0, 1) := by decide +kernel
theorem dX3_readOrder_77 : decode cX3_readOrder 77 = .ok (.getfield 25, 3) := by decide +kernel
theorem dX3_readOrder_80 : decode cX3_readOrder 80 = .ok (.iconst 3, 1) := by decide +kernel
theorem dX3_readOrder_81 : decode cX3_readOrder 81 = .ok (.imul, 1) := by decide +kernel
theorem dX3_readOrder_82 : decode cX3_readOrder 82 = .ok (.iload_n 3, 1) := by decide +kernel
theorem dX3_readOrder_83 : decode cX3_readOrder 83 = .ok (.iadd, 1) := by decide +kernel
theorem dX3_readOrder_84 : decode cX3_readOrder 84 = .ok (.invokevirtual 46, 3) := by decide +kernel
theorem dX3_readOrder_87 : decode cX3_readOrder 87 = .ok (.ifCond .ne 5, 3) := by decide +kernel
theorem dX3_readOrder_90 : decode cX3_readOrder 90 = .ok (.iconst 0, 1) := by decide +kernel
theorem dX3_readOrder_91 : decode cX3_readOrder 91 = .ok (.ireturn, 1) := by decide +kernel
theorem dX3_readOrder_92 : decode cX3_readOrder 92 = .ok (.iinc 3 1, 3) := by decide +kernel
theorem dX3_readOrder_95 : decode cX3_readOrder 95 = .ok (.goto (-29), 3) := by decide +kernel
theorem dX3_readOrder_98 : decode cX3_readOrder 98 = .ok (.aload_n 0, 1) := by decide +kernel
theorem dX3_readOrder_99 : decode cX3_readOrder 99 = .ok (.invokevirtual 31, 3) := by decide +kernel
theorem dX3_readOrder_102 : decode cX3_readOrder 102 = .ok (.aload_n 0, 1) := by decide +kernel
theorem dX3_readOrder_103 : decode cX3_readOrder 103 = .ok (.invokevirtual 38, 3) := by decide +kernel
theorem dX3_readOrder_106 : decode cX3_readOrder 106 = .ok (.bipush 59, 2) := by decide +kernel
theorem dX3_readOrder_108 : decode cX3_readOrder 108 = .ok (.if_icmp .eq 5, 3) := by decide +kernel
theorem dX3_readOrder_111 : decode cX3_readOrder 111 = .ok (.iconst 0, 1) := by decide +kernel
theorem dX3_readOrder_112 : decode cX3_readOrder 112 = .ok (.ireturn, 1) := by decide +kernel
theorem dX3_readOrder_113 : decode cX3_readOrder 113 = .ok (.aload_n 0, 1) := by decide +kernel
theorem dX3_readOrder_114 : decode cX3_readOrder 114 = .ok (.dup, 1) := by decide +kernel
theorem dX3_readOrder_115 : decode cX3_readOrder 115 = .ok (.getfield 28, 3) := by decide +kernel
theorem dX3_readOrder_118 : decode cX3_readOrder 118 = .ok (.iconst 1, 1) := by decide +kernel
theorem dX3_readOrder_119 : decode cX3_readOrder 119 = .ok (.iadd, 1) := by decide +kernel
theorem dX3_readOrder_120 : decode cX3_readOrder 120 = .ok (.putfield 28, 3) := by decide +kernel
theorem dX3_readOrder_123 : decode cX3_readOrder 123 = .ok (.iconst 1, 1) := by decide +kernel
theorem dX3_readOrder_124 : decode cX3_readOrder 124 = .ok (.ireturn, 1) := by decide +kernel
theorem dX3_readNumber_0 : decode cX3_readNumber 0 = .ok (.iconst 0, 1) := by decide +kernel
theorem dX3_readNumber_1 : decode cX3_readNumber 1 = .ok (.istore_n 2, 1) := by decide +kernel
theorem dX3_readNumber_2 : decode cX3_readNumber 2 = .ok (.iconst 0, 1) := by decide +kernel
theorem dX3_readNumber_3 : decode cX3_readNumber 3 = .ok (.istore_n 3, 1) := by decide +kernel
theorem dX3_readNumber_4 : decode cX3_readNumber 4 = .ok (.iload_n 2, 1) := by decide +kernel
theorem dX3_readNumber_5 : decode cX3_readNumber 5 = .ok (.iconst 3, 1) := by decide +kernel
theorem dX3_readNumber_6 : decode cX3_readNumber 6 = .ok (.if_icmp .ge 42, 3) := by decide +kernel
theorem dX3_readNumber_9 : decode cX3_readNumber 9 = .ok (.aload_n 0, 1) := by decide +kernel
theorem dX3_readNumber_10 : decode cX3_readNumber 10 = .ok (.invokevirtual 38, 3) := by decide +kernel
theorem dX3_readNumber_13 : decode cX3_readNumber 13 = .ok (.invokestatic 50, 3) := by decide +kernel
theorem dX3_readNumber_16 : decode cX3_readNumber 16 = .ok (.ifCond .eq 32, 3) := by decide +kernel
theorem dX3_readNumber_19 : decode cX3_readNumber 19 = .ok (.bipush 10, 2) := by decide +kernel
theorem dX3_readNumber_21 : decode cX3_readNumber 21 = .ok (.iload_n 3, 1) := by decide +kernel
theorem dX3_readNumber_22 : decode cX3_readNumber 22 = .ok (.imul, 1) := by decide +kernel
theorem dX3_readNumber_23 : decode cX3_readNumber 23 = .ok (.aload_n 0, 1) := by decide +kernel
theorem dX3_readNumber_24 : decode cX3_readNumber 24 = .ok (.invokevirtual 38, 3) := by decide +kernel
theorem dX3_readNumber_27 : decode cX3_readNumber 27 = .ok (.iadd, 1) := by decide +kernel
theorem dX3_readNumber_28 : decode cX3_readNumber 28 = .ok (.bipush 48, 2) := by decide +kernel
theorem dX3_readNumber_30 : decode cX3_readNumber 30 = .ok (.isub, 1) := by decide +kernel
theorem dX3_readNumber_31 : decode cX3_readNumber 31 = .ok (.istore_n 3, 1) := by decide +kernel
theorem dX3_readNumber_32 : decode cX3_readNumber 32 = .ok (.iinc 2 1, 3) := by decide +kernel
theorem dX3_readNumber_35 : decode cX3_readNumber 35 = .ok (.aload_n 0, 1) := by decide +kernel
theorem dX3_readNumber_36 : decode cX3_readNumber 36 = .ok (.dup, 1) := by decide +kernel
theorem dX3_readNumber_37 : decode cX3_readNumber 37 = .ok (.getfield 28, 3) := by decide +kernel
theorem dX3_readNumber_40 : decode cX3_readNumber 40 = .ok (.iconst 1, 1) := by decide +kernel
theorem dX3_readNumber_41 : decode cX3_readNumber 41 = .ok (.iadd, 1) := by decide +kernel
theorem dX3_readNumber_42 : decode cX3_readNumber 42 = .ok (.putfield 28, 3) := by decide +kernel
theorem dX3_readNumber_45 : decode cX3_readNumber 45 = .ok (.goto (-41), 3) := by decide +kernel
theorem dX3_readNumber_48 : decode cX3_readNumber 48 = .ok (.aload_n 0, 1) := by decide +kernel
theorem dX3_readNumber_49 : decode cX3_readNumber 49 = .ok (.getfield 18, 3) := by decide +kernel
theorem dX3_readNumber_52 : decode cX3_readNumber 52 = .ok (.iload_n 1, 1) := by decide +kernel
theorem dX3_readNumber_53 : decode cX3_readNumber 53 = .ok (.iload_n 3, 1) := by decide +kernel
theorem dX3_readNumber_54 : decode cX3_readNumber 54 = .ok (.iastore, 1) := by decide +kernel
theorem dX3_readNumber_55 : decode cX3_readNumber 55 = .ok (.iload_n 2, 1) := by decide +kernel
theorem dX3_readNumber_56 : decode cX3_readNumber 56 = .ok (.ifCond .le 17, 3) := by decide +kernel
theorem dX3_readNumber_59 : decode cX3_readNumber 59 = .ok (.aload_n 0, 1) := by decide +kernel
theorem dX3_readNumber_60 : decode cX3_readNumber 60 = .ok (.invokevirtual 38, 3) := by decide +kernel
theorem dX3_readNumber_63 : decode cX3_readNumber 63 = .ok (.invokestatic 50, 3) := by decide +kernel
theorem dX3_readNumber_66 : decode cX3_readNumber 66 = .ok (.ifCond .ne 7, 3) := by decide +kernel
theorem dX3_readNumber_69 : decode cX3_readNumber 69 = .ok (.iconst 1, 1) := by decide +kernel
theorem dX3_readNumber_70 : decode cX3_readNumber 70 = .ok (.goto 4, 3) := by decide +kernel
theorem dX3_readNumber_73 : decode cX3_readNumber 73 = .ok (.iconst 0, 1) := by decide +kernel
theorem dX3_readNumber_74 : decode cX3_readNumber 74 = .ok (.ireturn, 1) := by decide +kernel
theorem dX3_numbersDue_0 : decode cX3_numbersDue 0 = .ok (.iload_n 0, 1) := by decide +kernel
theorem dX3_numbersDue_1 : decode cX3_numbersDue 1 = .ok (.lookupswitch 67 #[(97, 65), (103, 61), (107, 63), (109, 61), (116, 61), (119, 59)], 59) := by decide +kernel
theorem dX3_numbersDue_60 : decode cX3_numbersDue 60 = .ok (.iconst 2, 1) := by decide +kernel
theorem dX3_numbersDue_61 : decode cX3_numbersDue 61 = .ok (.ireturn, 1) := by decide +kernel
theorem dX3_numbersDue_62 : decode cX3_numbersDue 62 = .ok (.iconst 3, 1) := by decide +kernel
theorem dX3_numbersDue_63 : decode cX3_numbersDue 63 = .ok (.ireturn, 1) := by decide +kernel
theorem dX3_numbersDue_64 : decode cX3_numbersDue 64 = .ok (.iconst 1, 1) := by decide +kernel
theorem dX3_numbersDue_65 : decode cX3_numbersDue 65 = .ok (.ireturn, 1) := by decide +kernel
theorem dX3_numbersDue_66 : decode cX3_numbersDue 66 = .ok (.iconst 0, 1) := by decide +kernel
theorem dX3_numbersDue_67 : decode cX3_numbersDue 67 = .ok (.ireturn, 1) := by decide +kernel
theorem dX3_numbersDue_68 : decode cX3_numbersDue 68 = .ok (.iconst (-1), 1) := by decide +kernel
theorem dX3_numbersDue_69 : decode cX3_numbersDue 69 = .ok (.ireturn, 1) := by decide +kernel
theorem dX3_isFigure_0 : decode cX3_isFigure 0 = .ok (.iload_n 0, 1) := by decide +kernel
theorem dX3_isFigure_1 : decode cX3_isFigure 1 = .ok (.bipush 48, 2) := by decide +kernel
theorem dX3_isFigure_3 : decode cX3_isFigure 3 = .ok (.if_icmp .lt 13, 3) := by decide +kernel
theorem dX3_isFigure_6 : decode cX3_isFigure 6 = .ok (.iload_n 0, 1) := by decide +kernel
theorem dX3_isFigure_7 : decode cX3_isFigure 7 = .ok (.bipush 57, 2) := by decide +kernel
theorem dX3_isFigure_9 : decode cX3_isFigure 9 = .ok (.if_icmp .gt 7, 3) := by decide +kernel
theorem dX3_isFigure_12 : decode cX3_isFigure 12 = .ok (.iconst 1, 1) := by decide +kernel
theorem dX3_isFigure_13 : decode cX3_isFigure 13 = .ok (.goto 4, 3) := by decide +kernel
theorem dX3_isFigure_16 : decode cX3_isFigure 16 = .ok (.iconst 0, 1) := by decide +kernel
theorem dX3_isFigure_17 : decode cX3_isFigure 17 = .ok (.ireturn, 1) := by decide +kernel
theorem dX3_passBlanks_0 : decode cX3_passBlanks 0 = .ok (.aload_n 0, 1) := by decide +kernel
theorem dX3_passBlanks_1 : decode cX3_passBlanks 1 = .ok (.getfield 28, 3) := by decide +kernel
theorem dX3_passBlanks_4 : decode cX3_passBlanks 4 = .ok (.aload_n 0, 1) := by decide +kernel
theorem dX3_passBlanks_5 : decode cX3_passBlanks 5 = .ok (.getfield 21, 3) := by decide +kernel
theorem dX3_passBlanks_8 : decode cX3_passBlanks 8 = .ok (.if_icmp .ge 30, 3) := by decide +kernel
theorem dX3_passBlanks_11 : decode cX3_passBlanks 11 = .ok (.aload_n 0, 1) := by decide +kernel
theorem dX3_passBlanks_12 : decode cX3_passBlanks 12 = .ok (.getfield 9, 3) := by decide +kernel
theorem dX3_passBlanks_15 : decode cX3_passBlanks 15 = .ok (.aload_n 0, 1) := by decide +kernel
theorem dX3_passBlanks_16 : decode cX3_passBlanks 16 = .ok (.getfield 28, 3) := by decide +kernel
theorem dX3_passBlanks_19 : decode cX3_passBlanks 19 = .ok (.iaload, 1) := by decide +kernel
theorem dX3_passBlanks_20 : decode cX3_passBlanks 20 = .ok (.bipush 32, 2) := by decide +kernel
theorem dX3_passBlanks_22 : decode cX3_passBlanks 22 = .ok (.if_icmp .ne 16, 3) := by decide +kernel
theorem dX3_passBlanks_25 : decode cX3_passBlanks 25 = .ok (.aload_n 0, 1) := by decide +kernel
theorem dX3_passBlanks_26 : decode cX3_passBlanks 26 = .ok (.dup, 1) := by decide +kernel
theorem dX3_passBlanks_27 : decode cX3_passBlanks 27 = .ok (.getfield 28, 3) := by decide +kernel
theorem dX3_passBlanks_30 : decode cX3_passBlanks 30 = .ok (.iconst 1, 1) := by decide +kernel
theorem dX3_passBlanks_31 : decode cX3_passBlanks 31 = .ok (.iadd, 1) := by decide +kernel
theorem dX3_passBlanks_32 : decode cX3_passBlanks 32 = .ok (.putfield 28, 3) := by decide +kernel
theorem dX3_passBlanks_35 : decode cX3_passBlanks 35 = .ok (.goto (-35), 3) := by decide +kernel
theorem dX3_passBlanks_38 : decode cX3_passBlanks 38 = .ok (.return_, 1) := by decide +kernel
theorem dX3_byteHere_0 : decode cX3_byteHere 0 = .ok (.aload_n 0, 1) := by decide +kernel
theorem dX3_byteHere_1 : decode cX3_byteHere 1 = .ok (.getfield 28, 3) := by decide +kernel
theorem dX3_byteHere_4 : decode cX3_byteHere 4 = .ok (.aload_n 0, 1) := by decide +kernel
theorem dX3_byteHere_5 : decode cX3_byteHere 5 = .ok (.getfield 21, 3) := by decide +kernel
theorem dX3_byteHere_8 : decode cX3_byteHere 8 = .ok (.if_icmp .ge 15, 3) := by decide +kernel
theorem dX3_byteHere_11 : decode cX3_byteHere 11 = .ok (.aload_n 0, 1) := by decide +kernel
theorem dX3_byteHere_12 : decode cX3_byteHere 12 = .ok (.getfield 9, 3) := by decide +kernel
theorem dX3_byteHere_15 : decode cX3_byteHere 15 = .ok (.aload_n 0, 1) := by decide +kernel
theorem dX3_byteHere_16 : decode cX3_byteHere 16 = .ok (.getfield 28, 3) := by decide +kernel
theorem dX3_byteHere_19 : decode cX3_byteHere 19 = .ok (.iaload, 1) := by decide +kernel
theorem dX3_byteHere_20 : decode cX3_byteHere 20 = .ok (.goto 4, 3) := by decide +kernel
theorem dX3_byteHere_23 : decode cX3_byteHere 23 = .ok (.iconst (-1), 1) := by decide +kernel
theorem dX3_byteHere_24 : decode cX3_byteHere 24 = .ok (.ireturn, 1) := by decide +kernel
theorem dX4_init_0 : decode cX4_init 0 = .ok (.aload_n 0, 1) := by decide +kernel
theorem dX4_init_1 : decode cX4_init 1 = .ok (.invokespecial 3, 3) := by decide +kernel
theorem dX4_init_4 : decode cX4_init 4 = .ok (.aload_n 0, 1) := by decide +kernel
theorem dX4_init_5 : decode cX4_init 5 = .ok (.sipush 144, 3) := by decide +kernel
theorem dX4_init_8 : decode cX4_init 8 = .ok (.newarray .boolean, 2) := by decide +kernel
theorem dX4_init_10 : decode cX4_init 10 = .ok (.putfield 9, 3) := by decide +kernel
theorem dX4_init_13 : decode cX4_init 13 = .ok (.return_, 1) := by decide +kernel
theorem dX4_enter_0 : decode cX4_enter 0 = .ok (.iconst 0, 1) := by decide +kernel
theorem dX4_enter_1 : decode cX4_enter 1 = .ok (.istore_n 3, 1) := by decide +kernel
theorem dX4_enter_2 : decode cX4_enter 2 = .ok (.iload_n 3, 1) := by decide +kernel
theorem dX4_enter_3 : decode cX4_enter 3 = .ok (.sipush 144, 3) := by decide +kernel
theorem dX4_enter_6 : decode cX4_enter 6 = .ok (.if_icmp .ge 16, 3) := by decide +kernel
theorem dX4_enter_9 : decode cX4_enter 9 = .ok (.aload_n 0, 1) := by decide +kernel
theorem dX4_enter_10 : decode cX4_enter 10 = .ok (.getfield 9, 3) := by decide +kernel
theorem dX4_enter_13 : decode cX4_enter 13 = .ok (.iload_n 3, 1) := by decide +kernel
theorem dX4_enter_14 : decode cX4_enter 14 = .ok (.iconst 0, 1) := by decide +kernel
theorem dX4_enter_15 : decode cX4_enter 15 = .ok (.bastore, 1) := by decide +kernel
theorem dX4_enter_16 : decode cX4_enter 16 = .ok (.iinc 3 1, 3) := by decide +kernel
theorem dX4_enter_19 : decode cX4_enter 19 = .ok (.goto (-17), 3) := by decide +kernel
theorem dX4_enter_22 : decode cX4_enter 22 = .ok (.iconst 0, 1) := by decide +kernel
theorem dX4_enter_23 : decode cX4_enter 23 = .ok (.istore_n 3, 1) := by decide +kernel
theorem dX4_enter_24 : decode cX4_enter 24 = .ok (.iload_n 3, 1) := by decide +kernel
theorem dX4_enter_25 : decode cX4_enter 25 = .ok (.aload_n 2, 1) := by decide +kernel
theorem dX4_enter_26 : decode cX4_enter 26 = .ok (.invokevirtual 15, 3) := by decide +kernel
theorem dX4_enter_29 : decode cX4_enter 29 = .ok (.if_icmp .ge 46, 3) := by decide +kernel
theorem dX4_enter_32 : decode cX4_enter 32 = .ok (.aload_n 1, 1) := by decide +kernel
theorem dX4_enter_33 : decode cX4_enter 33 = .ok (.aload_n 2, 1) := by decide +kernel
theorem dX4_enter_34 : decode cX4_enter 34 = .ok (.iload_n 3, 1) := by decide +kernel
theorem dX4_enter_35 : decode cX4_enter 35 = .ok (.invokevirtual 21, 3) := by decide +kernel
theorem dX4_enter_38 : decode cX4_enter 38 = .ok (.istore 4, 2) := by decide +kernel
theorem dX4_enter_40 : decode cX4_enter 40 = .ok (.iload 4, 2) := by decide +kernel
theorem dX4_enter_42 : decode cX4_enter 42 = .ok (.aload_n 1, 1) := by decide +kernel
theorem dX4_enter_43 : decode cX4_enter 43 = .ok (.aload_n 2, 1) := by decide +kernel
theorem dX4_enter_44 : decode cX4_enter 44 = .ok (.iload_n 3, 1) := by decide +kernel
theorem dX4_enter_45 : decode cX4_enter 45 = .ok (.invokevirtual 27, 3) := by decide +kernel
theorem dX4_enter_48 : decode cX4_enter 48 = .ok (.if_icmp .ge 21, 3) := by decide +kernel
theorem dX4_enter_51 : decode cX4_enter 51 = .ok (.aload_n 0, 1) := by decide +kernel
theorem dX4_enter_52 : decode cX4_enter 52 = .ok (.aload_n 1, 1) := by decide +kernel
theorem dX4_enter_53 : decode cX4_enter 53 = .ok (.iload_n 3, 1) := by decide +kernel
theorem dX4_enter_54 : decode cX4_enter 54 = .ok (.iload 4, 2) := by decide +kernel
theorem dX4_enter_56 : decode cX4_enter 56 = .ok (.invokevirtual 30, 3) := by decide +kernel
theorem dX4_enter_59 : decode cX4_enter 59 = .ok (.iconst 1, 1) := by decide +kernel
theorem dX4_enter_60 : decode cX4_enter 60 = .ok (.invokevirtual 34, 3) := by decide +kernel
theorem dX4_enter_63 : decode cX4_enter 63 = .ok (.iinc 4 1, 3) := by decide +kernel
theorem dX4_enter_66 : decode cX4_enter 66 = .ok (.goto (-26), 3) := by decide +kernel
theorem dX4_enter_69 : decode cX4_enter 69 = .ok (.iinc 3 1, 3) := by decide +kernel
theorem dX4_enter_72 : decode cX4_enter 72 = .ok (.goto (-48), 3) := by decide +kernel
theorem dX4_enter_75 : decode cX4_enter 75 = .ok (.return_, 1) := by decide +kernel
theorem dX4_run_0 : decode cX4_run 0 = .ok (.iload_n 3, 1) := by decide +kernel
theorem dX4_run_1 : decode cX4_run 1 = .ok (.iconst 1, 1) := by decide +kernel
theorem dX4_run_2 : decode cX4_run 2 = .ok (.isub, 1) := by decide +kernel
theorem dX4_run_3 : decode cX4_run 3 = .ok (.istore 4, 2) := by decide +kernel
theorem dX4_run_5 : decode cX4_run 5 = .ok (.iload 4, 2) := by decide +kernel
theorem dX4_run_7 : decode cX4_run 7 = .ok (.ifCond .lt 27, 3) := by decide +kernel
theorem dX4_run_10 : decode cX4_run 10 = .ok (.aload_n 0, 1) := by decide +kernel
theorem dX4_run_11 : decode cX4_run 11 = .ok (.aload_n 1, 1) := by decide +kernel
theorem dX4_run_12 : decode cX4_run 12 = .ok (.aload_n 2, 1) := by decide +kernel
theorem dX4_run_13 : decode cX4_run 13 = .ok (.invokevirtual 38, 3) := by decide +kernel
theorem dX4_run_16 : decode cX4_run 16 = .ok (.ifCond .ne 12, 3) := by decide +kernel
theorem dX4_run_19 : decode cX4_run 19 = .ok (.aload_n 0, 1) := by decide +kernel
theorem dX4_run_20 : decode cX4_run 20 = .ok (.aload_n 1, 1) := by decide +kernel
theorem dX4_run_21 : decode cX4_run 21 = .ok (.aload_n 2, 1) := by decide +kernel
theorem dX4_run_22 : decode cX4_run 22 = .ok (.iload 4, 2) := by decide +kernel
theorem dX4_run_24 : decode cX4_run 24 = .ok (.invokevirtual 42, 3) := by decide +kernel
theorem dX4_run_27 : decode cX4_run 27 = .ok (.return_, 1) := by decide +kernel
theorem dX4_run_28 : decode cX4_run 28 = .ok (.iinc 4 (-1), 3) := by decide +kernel
theorem dX4_run_31 : decode cX4_run 31 = .ok (.goto (-26), 3) := by decide +kernel
theorem dX4_run_34 : decode cX4_run 34 = .ok (.return_, 1) := by decide +kernel
theorem dX4_stepOnce_0 : decode cX4_stepOnce 0 = .ok (.iconst 0, 1) := by decide +kernel
theorem dX4_stepOnce_1 : decode cX4_stepOnce 1 = .ok (.istore_n 3, 1) := by decide +kernel
theorem dX4_stepOnce_2 : decode cX4_stepOnce 2 = .ok (.iconst 0, 1) := by decide +kernel
theorem dX4_stepOnce_3 : decode cX4_stepOnce 3 = .ok (.istore 4, 2) := by decide +kernel
theorem dX4_stepOnce_5 : decode cX4_stepOnce 5 = .ok (.iload 4, 2) := by decide +kernel
theorem dX4_stepOnce_7 : decode cX4_stepOnce 7 = .ok (.aload_n 2, 1) := by decide +kernel
theorem dX4_stepOnce_8 : decode cX4_stepOnce 8 = .ok (.invokevirtual 15, 3) := by decide +kernel
theorem dX4_stepOnce_11 : decode cX4_stepOnce 11 = .ok (.if_icmp .ge 57, 3) := by decide +kernel
theorem dX4_stepOnce_14 : decode cX4_stepOnce 14 = .ok (.aload_n 1, 1) := by decide +kernel
theorem dX4_stepOnce_15 : decode cX4_stepOnce 15 = .ok (.aload_n 2, 1) := by decide +kernel
theorem dX4_stepOnce_16 : decode cX4_stepOnce 16 = .ok (.iload 4, 2) := by decide +kernel
theorem dX4_stepOnce_18 : decode cX4_stepOnce 18 = .ok (.invokevirtual 46, 3) := by decide +kernel
theorem dX4_stepOnce_21 : decode cX4_stepOnce 21 = .ok (.ifCond .eq 6, 3) := by decide +kernel
theorem dX4_stepOnce_24 : decode cX4_stepOnce 24 = .ok (.goto 38, 3) := by decide +kernel
theorem dX4_stepOnce_27 : decode cX4_stepOnce 27 = .ok (.aload_n 0, 1) := by decide +kernel
theorem dX4_stepOnce_28 : decode cX4_stepOnce 28 = .ok (.aload_n 1, 1) := by decide +kernel
theorem dX4_stepOnce_29 : decode cX4_stepOnce 29 = .ok (.aload_n 2, 1) := by decide +kernel
theorem dX4_stepOnce_30 : decode cX4_stepOnce 30 = .ok (.iload 4, 2) := by decide +kernel
theorem dX4_stepOnce_32 : decode cX4_stepOnce 32 = .ok (.invokevirtual 50, 3) := by decide +kernel
theorem dX4_stepOnce_35 : decode cX4_stepOnce 35 = .ok (.ifCond .eq 17, 3) := by decide +kernel
theorem dX4_stepOnce_38 : decode cX4_stepOnce 38 = .ok (.aload_n 2, 1) := by decide +kernel
theorem dX4_stepOnce_39 : decode cX4_stepOnce 39 = .ok (.getfield 54, 3) := by decide +kernel
theorem dX4_stepOnce_42 : decode cX4_stepOnce 42 = .ok (.iload 4, 2) := by decide +kernel
theorem dX4_stepOnce_44 : decode cX4_stepOnce 44 = .ok (.dup2, 1) := by decide +kernel
theorem dX4_stepOnce_45 : decode cX4_stepOnce 45 = .ok (.iaload, 1) := by decide +kernel
theorem dX4_stepOnce_46 : decode cX4_stepOnce 46 = .ok (.iconst 1, 1) := by decide +kernel
theorem dX4_stepOnce_47 : decode cX4_stepOnce 47 = .ok (.iadd, 1) := by decide +kernel
theorem dX4_stepOnce_48 : decode cX4_stepOnce 48 = .ok (.iastore, 1) := by decide +kernel
theorem dX4_stepOnce_49 : decode cX4_stepOnce 49 = .ok (.goto 13, 3) := by decide +kernel
theorem dX4_stepOnce_52 : decode cX4_stepOnce 52 = .ok (.aload_n 0, 1) := by decide +kernel
theorem dX4_stepOnce_53 : decode cX4_stepOnce 53 = .ok (.aload_n 1, 1) := by decide +kernel
theorem dX4_stepOnce_54 : decode cX4_stepOnce 54 = .ok (.aload_n 2, 1) := by decide +kernel
theorem dX4_stepOnce_55 : decode cX4_stepOnce 55 = .ok (.iload 4, 2) := by decide +kernel
theorem dX4_stepOnce_57 : decode cX4_stepOnce 57 = .ok (.invokevirtual 58, 3) := by decide +kernel
theorem dX4_stepOnce_60 : decode cX4_stepOnce 60 = .ok (.iconst 1, 1) := by decide +kernel
theorem dX4_stepOnce_61 : decode cX4_stepOnce 61 = .ok (.istore_n 3, 1) := by decide +kernel
theorem dX4_stepOnce_62 : decode cX4_stepOnce 62 = .ok (.iinc 4 1, 3) := by decide +kernel
theorem dX4_stepOnce_65 : decode cX4_stepOnce 65 = .ok (.goto (-60), 3) := by decide +kernel
theorem dX4_stepOnce_68 : decode cX4_stepOnce 68 = .ok (.aload_n 2, 1) := by decide +kernel
theorem dX4_stepOnce_69 : decode cX4_stepOnce 69 = .ok (.dup, 1) := by decide +kernel
theorem dX4_stepOnce_70 : decode cX4_stepOnce 70 = .ok (.getfield 61, 3) := by decide +kernel
theorem dX4_stepOnce_73 : decode cX4_stepOnce 73 = .ok (.iconst 1, 1) := by decide +kernel
theorem dX4_stepOnce_74 : decode cX4_stepOnce 74 = .ok (.iadd, 1) := by decide +kernel
theorem dX4_stepOnce_75 : decode cX4_stepOnce 75 = .ok (.putfield 61, 3) := by decide +kernel
theorem dX4_stepOnce_78 : decode cX4_stepOnce 78 = .ok (.iload_n 3, 1) := by decide +kernel
theorem dX4_stepOnce_79 : decode cX4_stepOnce 79 = .ok (.ireturn, 1) := by decide +kernel
theorem dX4_isStopped_0 : decode cX4_isStopped 0 = .ok (.aload_n 2, 1) := by decide +kernel
theorem dX4_isStopped_1 : decode cX4_isStopped 1 = .ok (.getfield 65, 3) := by decide +kernel
theorem dX4_isStopped_4 : decode cX4_isStopped 4 = .ok (.iload_n 3, 1) := by decide +kernel
theorem dX4_isStopped_5 : decode cX4_isStopped 5 = .ok (.iaload, 1) := by decide +kernel
theorem dX4_isStopped_6 : decode cX4_isStopped 6 = .ok (.istore 4, 2) := by decide +kernel
theorem dX4_isStopped_8 : decode cX4_isStopped 8 = .ok (.iload 4, 2) := by decide +kernel
theorem dX4_isStopped_10 : decode cX4_isStopped 10 = .ok (.aload_n 1, 1) := by decide +kernel
theorem dX4_isStopped_11 : decode cX4_isStopped 11 = .ok (.iload_n 3, 1) := by decide +kernel
theorem dX4_isStopped_12 : decode cX4_isStopped 12 = .ok (.invokevirtual 68, 3) := by decide +kernel
theorem dX4_isStopped_15 : decode cX4_isStopped 15 = .ok (.if_icmp .lt 5, 3) := by decide +kernel
theorem dX4_isStopped_18 : decode cX4_isStopped 18 = .ok (.iconst 0, 1) := by decide +kernel
theorem dX4_isStopped_19 : decode cX4_isStopped 19 = .ok (.ireturn, 1) := by decide +kernel
theorem dX4_isStopped_20 : decode cX4_isStopped 20 = .ok (.aload_n 1, 1) := by decide +kernel
theorem dX4_isStopped_21 : decode cX4_isStopped 21 = .ok (.iload_n 3, 1) := by decide +kernel
theorem dX4_isStopped_22 : decode cX4_isStopped 22 = .ok (.iload 4, 2) := by decide +kernel
theorem dX4_isStopped_24 : decode cX4_isStopped 24 = .ok (.invokevirtual 30, 3) := by decide +kernel
theorem dX4_isStopped_27 : decode cX4_isStopped 27 = .ok (.istore 5, 2) := by decide +kernel
theorem dX4_isStopped_29 : decode cX4_isStopped 29 = .ok (.aload_n 2, 1) := by decide +kernel
theorem dX4_isStopped_30 : decode cX4_isStopped 30 = .ok (.iload 5, 2) := by decide +kernel
theorem dX4_isStopped_32 : decode cX4_isStopped 32 = .ok (.invokevirtual 72, 3) := by decide +kernel
theorem dX4_isStopped_35 : decode cX4_isStopped 35 = .ok (.ifCond .ne 12, 3) := by decide +kernel
theorem dX4_isStopped_38 : decode cX4_isStopped 38 = .ok (.aload_n 0, 1) := by decide +kernel
theorem dX4_isStopped_39 : decode cX4_isStopped 39 = .ok (.iload 5, 2) := by decide +kernel
theorem dX4_isStopped_41 : decode cX4_isStopped 41 = .ok (.invokevirtual 76, 3) := by decide +kernel
theorem dX4_isStopped_44 : decode cX4_isStopped 44 = .ok (.ifCond .eq 7, 3) := by decide +kernel
theorem dX4_isStopped_47 : decode cX4_isStopped 47 = .ok (.iconst 1, 1) := by decide +kernel
theorem dX4_isStopped_48 : decode cX4_isStopped 48 = .ok (.goto 4, 3) := by decide +kernel
theorem dX4_isStopped_51 : decode cX4_isStopped 51 = .ok (.iconst 0, 1) := by decide +kernel
theorem dX4_isStopped_52 : decode cX4_isStopped 52 = .ok (.ireturn, 1) := by decide +kernel
theorem dX4_moveOn_0 : decode cX4_moveOn 0 = .ok (.aload_n 2, 1) := by decide +kernel
theorem dX4_moveOn_1 : decode cX4_moveOn 1 = .ok (.getfield 65, 3) := by decide +kernel
theorem dX4_moveOn_4 : decode cX4_moveOn 4 = .ok (.iload_n 3, 1) := by decide +kernel
theorem dX4_moveOn_5 : decode cX4_moveOn 5 = .ok (.iaload, 1) := by decide +kernel
theorem dX4_moveOn_6 : decode cX4_moveOn 6 = .ok (.istore 4, 2) := by decide +kernel
theorem dX4_moveOn_8 : decode cX4_moveOn 8 = .ok (.iload 4, 2) := by decide +kernel
theorem dX4_moveOn_10 : decode cX4_moveOn 10 = .ok (.aload_n 2, 1) := by decide +kernel
theorem dX4_moveOn_11 : decode cX4_moveOn 11 = .ok (.iload_n 3, 1) := by decide +kernel
theorem dX4_moveOn_12 : decode cX4_moveOn 12 = .ok (.invokevirtual 79, 3) := by decide +kernel
theorem dX4_moveOn_15 : decode cX4_moveOn 15 = .ok (.isub, 1) := by decide +kernel
theorem dX4_moveOn_16 : decode cX4_moveOn 16 = .ok (.istore 5, 2) := by decide +kernel
theorem dX4_moveOn_18 : decode cX4_moveOn 18 = .ok (.iload 4, 2) := by decide +kernel
theorem dX4_moveOn_20 : decode cX4_moveOn 20 = .ok (.aload_n 1, 1) := by decide +kernel
theorem dX4_moveOn_21 : decode cX4_moveOn 21 = .ok (.iload_n 3, 1) := by decide +kernel
theorem dX4_moveOn_22 : decode cX4_moveOn 22 = .ok (.invokevirtual 68, 3) := by decide +kernel
theorem dX4_moveOn_25 : decode cX4_moveOn 25 = .ok (.if_icmp .ge 15, 3) := by decide +kernel
theorem dX4_moveOn_28 : decode cX4_moveOn 28 = .ok (.aload_n 0, 1) := by decide +kernel
theorem dX4_moveOn_29 : decode cX4_moveOn 29 = .ok (.aload_n 1, 1) := by decide +kernel
theorem dX4_moveOn_30 : decode cX4_moveOn 30 = .ok (.iload_n 3, 1) := by decide +kernel
theorem dX4_moveOn_31 : decode cX4_moveOn 31 = .ok (.iload 4, 2) := by decide +kernel
theorem dX4_moveOn_33 : decode cX4_moveOn 33 = .ok (.invokevirtual 30, 3) := by decide +kernel
theorem dX4_moveOn_36 : decode cX4_moveOn 36 = .ok (.iconst 1, 1) := by decide +kernel
theorem dX4_moveOn_37 : decode cX4_moveOn 37 = .ok (.invokevirtual 34, 3) := by decide +kernel
theorem dX4_moveOn_40 : decode cX4_moveOn 40 = .ok (.iload 5, 2) := by decide +kernel
theorem dX4_moveOn_42 : decode cX4_moveOn 42 = .ok (.ifCond .lt 25, 3) := by decide +kernel
theorem dX4_moveOn_45 : decode cX4_moveOn 45 = .ok (.iload 5, 2) := by decide +kernel
theorem dX4_moveOn_47 : decode cX4_moveOn 47 = .ok (.aload_n 1, 1) := by decide +kernel
theorem dX4_moveOn_48 : decode cX4_moveOn 48 = .ok (.iload_n 3, 1) := by decide +kernel
theorem dX4_moveOn_49 : decode cX4_moveOn 49 = .ok (.invokevirtual 68, 3) := by decide +kernel
theorem dX4_moveOn_52 : decode cX4_moveOn 52 = .ok (.if_icmp .ge 15, 3) := by decide +kernel
theorem dX4_moveOn_55 : decode cX4_moveOn 55 = .ok (.aload_n 0, 1) := by decide +kernel
theorem dX4_moveOn_56 : decode cX4_moveOn 56 = .ok (.aload_n 1, 1) := by decide +kernel
theorem dX4_moveOn_57 : decode cX4_moveOn 57 = .ok (.iload_n 3, 1) := by decide +kernel
theorem dX4_moveOn_58 : decode cX4_moveOn 58 = .ok (.iload 5, 2) := by decide +kernel
theorem dX4_moveOn_60 : decode cX4_moveOn 60 = .ok (.invokevirtual 30, 3) := by decide +kernel
theorem dX4_moveOn_63 : decode cX4_moveOn 63 = .ok (.iconst 0, 1) := by decide +kernel
theorem dX4_moveOn_64 : decode cX4_moveOn 64 = .ok (.invokevirtual 34, 3) := by decide +kernel
theorem dX4_moveOn_67 : decode cX4_moveOn 67 = .ok (.aload_n 2, 1) := by decide +kernel
theorem dX4_moveOn_68 : decode cX4_moveOn 68 = .ok (.getfield 65, 3) := by decide +kernel
theorem dX4_moveOn_71 : decode cX4_moveOn 71 = .ok (.iload_n 3, 1) := by decide +kernel
theorem dX4_moveOn_72 : decode cX4_moveOn 72 = .ok (.iload 4, 2) := by decide +kernel
theorem dX4_moveOn_74 : decode cX4_moveOn 74 = .ok (.iconst 1, 1) := by decide +kernel
theorem dX4_moveOn_75 : decode cX4_moveOn 75 = .ok (.iadd, 1) := by decide +kernel
theorem dX4_moveOn_76 : decode cX4_moveOn 76 = .ok (.iastore, 1) := by decide +kernel
theorem dX4_moveOn_77 : decode cX4_moveOn 77 = .ok (.return_, 1) := by decide +kernel
theorem dX4_waitFor_0 : decode cX4_waitFor 0 = .ok (.aload_n 2, 1) := by decide +kernel
theorem dX4_waitFor_1 : decode cX4_waitFor 1 = .ok (.dup, 1) := by decide +kernel
theorem dX4_waitFor_2 : decode cX4_waitFor 2 = .ok (.getfield 61, 3) := by decide +kernel
theorem dX4_waitFor_5 : decode cX4_waitFor 5 = .ok (.iload_n 3, 1) := by decide +kernel
theorem dX4_waitFor_6 : decode cX4_waitFor 6 = .ok (.iadd, 1) := by decide +kernel
theorem dX4_waitFor_7 : decode cX4_waitFor 7 = .ok (.putfield 61, 3) := by decide +kernel
theorem dX4_waitFor_10 : decode cX4_waitFor 10 = .ok (.iconst 0, 1) := by decide +kernel
theorem dX4_waitFor_11 : decode cX4_waitFor 11 = .ok (.istore 4, 2) := by decide +kernel
theorem dX4_waitFor_13 : decode cX4_waitFor 13 = .ok (.iload 4, 2) := by decide +kernel
theorem dX4_waitFor_15 : decode cX4_waitFor 15 = .ok (.aload_n 2, 1) := by decide +kernel
theorem dX4_waitFor_16 : decode cX4_waitFor 16 = .ok (.invokevirtual 15, 3) := by decide +kernel
theorem dX4_waitFor_19 : decode cX4_waitFor 19 = .ok (.if_icmp .ge 30, 3) := by decide +kernel
theorem dX4_waitFor_22 : decode cX4_waitFor 22 = .ok (.aload_n 1, 1) := by decide +kernel
theorem dX4_waitFor_23 : decode cX4_waitFor 23 = .ok (.aload_n 2, 1) := by decide +kernel
theorem dX4_waitFor_24 : decode cX4_waitFor 24 = .ok (.iload 4, 2) := by decide +kernel
theorem dX4_waitFor_26 : decode cX4_waitFor 26 = .ok (.invokevirtual 46, 3) := by decide +kernel
theorem dX4_waitFor_29 : decode cX4_waitFor 29 = .ok (.ifCond .ne 14, 3) := by decide +kernel
theorem dX4_waitFor_32 : decode cX4_waitFor 32 = .ok (.aload_n 2, 1) := by decide +kernel
theorem dX4_waitFor_33 : decode cX4_waitFor 33 = .ok (.getfield 54, 3) := by decide +kernel
theorem dX4_waitFor_36 : decode cX4_waitFor 36 = .ok (.iload 4, 2) := by decide +kernel
theorem dX4_waitFor_38 : decode cX4_waitFor 38 = .ok (.dup2, 1) := by decide +kernel
theorem dX4_waitFor_39 : decode cX4_waitFor 39 = .ok (.iaload, 1) := by decide +kernel
theorem dX4_waitFor_40 : decode cX4_waitFor 40 = .ok (.iload_n 3, 1) := by decide +kernel
theorem dX4_waitFor_41 : decode cX4_waitFor 41 = .ok (.iadd, 1) := by decide +kernel
theorem dX4_waitFor_42 : decode cX4_waitFor 42 = .ok (.iastore, 1) := by decide +kernel
theorem dX4_waitFor_43 : decode cX4_waitFor 43 = .ok (.iinc 4 1, 3) := by decide +kernel
theorem dX4_waitFor_46 : decode cX4_waitFor 46 = .ok (.goto (-33), 3) := by decide +kernel
theorem dX4_waitFor_49 : decode cX4_waitFor 49 = .ok (.return_, 1) := by decide +kernel
