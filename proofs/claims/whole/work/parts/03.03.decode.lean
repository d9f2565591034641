theorem dX7_wayTo_0 : decode cX7_wayTo 0 = .ok (.iconst 0, 1) := by decide +kernel
theorem dX7_wayTo_1 : decode cX7_wayTo 1 = .ok (.istore_n 3, 1) := by decide +kernel
theorem dX7_wayTo_2 : decode cX7_wayTo 2 = .ok (.aload_n 0, 1) := by decide +kernel
theorem dX7_wayTo_3 : decode cX7_wayTo 3 = .ok (.iload_n 1, 1) := by decide +kernel
theorem dX7_wayTo_4 : decode cX7_wayTo 4 = .ok (.iload_n 3, 1) := by decide +kernel
theorem dX7_wayTo_5 : decode cX7_wayTo 5 = .ok (.invokevirtual 72, 3) := by decide +kernel
theorem dX7_wayTo_8 : decode cX7_wayTo 8 = .ok (.iload_n 2, 1) := by decide +kernel
theorem dX7_wayTo_9 : decode cX7_wayTo 9 = .ok (.if_icmp .eq 9, 3) := by decide +kernel
theorem dX7_wayTo_12 : decode cX7_wayTo 12 = .ok (.iinc 3 1, 3) := by decide +kernel
theorem dX7_wayTo_15 : decode cX7_wayTo 15 = .ok (.goto (-13), 3) := by decide +kernel
theorem dX7_wayTo_18 : decode cX7_wayTo 18 = .ok (.iload_n 3, 1) := by decide +kernel
theorem dX7_wayTo_19 : decode cX7_wayTo 19 = .ok (.ireturn, 1) := by decide +kernel
theorem dX7_isDown_0 : decode cX7_isDown 0 = .ok (.aload_n 0, 1) := by decide +kernel
theorem dX7_isDown_1 : decode cX7_isDown 1 = .ok (.getfield 7, 3) := by decide +kernel
theorem dX7_isDown_4 : decode cX7_isDown 4 = .ok (.bipush 44, 2) := by decide +kernel
theorem dX7_isDown_6 : decode cX7_isDown 6 = .ok (.iload_n 1, 1) := by decide +kernel
theorem dX7_isDown_7 : decode cX7_isDown 7 = .ok (.iadd, 1) := by decide +kernel
theorem dX7_isDown_8 : decode cX7_isDown 8 = .ok (.iaload, 1) := by decide +kernel
theorem dX7_isDown_9 : decode cX7_isDown 9 = .ok (.iload_n 2, 1) := by decide +kernel
theorem dX7_isDown_10 : decode cX7_isDown 10 = .ok (.ishr, 1) := by decide +kernel
theorem dX7_isDown_11 : decode cX7_isDown 11 = .ok (.iconst 1, 1) := by decide +kernel
theorem dX7_isDown_12 : decode cX7_isDown 12 = .ok (.iand, 1) := by decide +kernel
theorem dX7_isDown_13 : decode cX7_isDown 13 = .ok (.iconst 1, 1) := by decide +kernel
theorem dX7_isDown_14 : decode cX7_isDown 14 = .ok (.if_icmp .ne 7, 3) := by decide +kernel
theorem dX7_isDown_17 : decode cX7_isDown 17 = .ok (.iconst 1, 1) := by decide +kernel
theorem dX7_isDown_18 : decode cX7_isDown 18 = .ok (.goto 4, 3) := by decide +kernel
theorem dX7_isDown_21 : decode cX7_isDown 21 = .ok (.iconst 0, 1) := by decide +kernel
theorem dX7_isDown_22 : decode cX7_isDown 22 = .ok (.ireturn, 1) := by decide +kernel
theorem dX7_goes_0 : decode cX7_goes 0 = .ok (.aload_n 0, 1) := by decide +kernel
theorem dX7_goes_1 : decode cX7_goes 1 = .ok (.iload_n 1, 1) := by decide +kernel
theorem dX7_goes_2 : decode cX7_goes 2 = .ok (.invokevirtual 88, 3) := by decide +kernel
theorem dX7_goes_5 : decode cX7_goes 5 = .ok (.istore_n 2, 1) := by decide +kernel
theorem dX7_goes_6 : decode cX7_goes 6 = .ok (.iload_n 2, 1) := by decide +kernel
theorem dX7_goes_7 : decode cX7_goes 7 = .ok (.aload_n 0, 1) := by decide +kernel
theorem dX7_goes_8 : decode cX7_goes 8 = .ok (.getfield 28, 3) := by decide +kernel
theorem dX7_goes_11 : decode cX7_goes 11 = .ok (.iload_n 1, 1) := by decide +kernel
theorem dX7_goes_12 : decode cX7_goes 12 = .ok (.iaload, 1) := by decide +kernel
theorem dX7_goes_13 : decode cX7_goes 13 = .ok (.if_icmp .ge 79, 3) := by decide +kernel
theorem dX7_goes_16 : decode cX7_goes 16 = .ok (.aload_n 0, 1) := by decide +kernel
theorem dX7_goes_17 : decode cX7_goes 17 = .ok (.getfield 25, 3) := by decide +kernel
theorem dX7_goes_20 : decode cX7_goes 20 = .ok (.bipush 37, 2) := by decide +kernel
theorem dX7_goes_22 : decode cX7_goes 22 = .ok (.iload_n 1, 1) := by decide +kernel
theorem dX7_goes_23 : decode cX7_goes 23 = .ok (.imul, 1) := by decide +kernel
theorem dX7_goes_24 : decode cX7_goes 24 = .ok (.iload_n 2, 1) := by decide +kernel
theorem dX7_goes_25 : decode cX7_goes 25 = .ok (.iadd, 1) := by decide +kernel
theorem dX7_goes_26 : decode cX7_goes 26 = .ok (.iaload, 1) := by decide +kernel
theorem dX7_goes_27 : decode cX7_goes 27 = .ok (.istore_n 3, 1) := by decide +kernel
theorem dX7_goes_28 : decode cX7_goes 28 = .ok (.aload_n 0, 1) := by decide +kernel
theorem dX7_goes_29 : decode cX7_goes 29 = .ok (.getfield 25, 3) := by decide +kernel
theorem dX7_goes_32 : decode cX7_goes 32 = .ok (.bipush 37, 2) := by decide +kernel
theorem dX7_goes_34 : decode cX7_goes 34 = .ok (.iload_n 1, 1) := by decide +kernel
theorem dX7_goes_35 : decode cX7_goes 35 = .ok (.imul, 1) := by decide +kernel
theorem dX7_goes_36 : decode cX7_goes 36 = .ok (.iload_n 2, 1) := by decide +kernel
theorem dX7_goes_37 : decode cX7_goes 37 = .ok (.iadd, 1) := by decide +kernel
theorem dX7_goes_38 : decode cX7_goes 38 = .ok (.iconst 1, 1) := by decide +kernel
theorem dX7_goes_39 : decode cX7_goes 39 = .ok (.iadd, 1) := by decide +kernel
theorem dX7_goes_40 : decode cX7_goes 40 = .ok (.iaload, 1) := by decide +kernel
theorem dX7_goes_41 : decode cX7_goes 41 = .ok (.istore 4, 2) := by decide +kernel
theorem dX7_goes_43 : decode cX7_goes 43 = .ok (.aload_n 0, 1) := by decide +kernel
theorem dX7_goes_44 : decode cX7_goes 44 = .ok (.iload_n 3, 1) := by decide +kernel
theorem dX7_goes_45 : decode cX7_goes 45 = .ok (.aload_n 0, 1) := by decide +kernel
theorem dX7_goes_46 : decode cX7_goes 46 = .ok (.iload_n 3, 1) := by decide +kernel
theorem dX7_goes_47 : decode cX7_goes 47 = .ok (.iload 4, 2) := by decide +kernel
theorem dX7_goes_49 : decode cX7_goes 49 = .ok (.invokevirtual 100, 3) := by decide +kernel
theorem dX7_goes_52 : decode cX7_goes 52 = .ok (.invokevirtual 103, 3) := by decide +kernel
theorem dX7_goes_55 : decode cX7_goes 55 = .ok (.ifCond .ne 14, 3) := by decide +kernel
theorem dX7_goes_58 : decode cX7_goes 58 = .ok (.aload_n 0, 1) := by decide +kernel
theorem dX7_goes_59 : decode cX7_goes 59 = .ok (.iload_n 3, 1) := by decide +kernel
theorem dX7_goes_60 : decode cX7_goes 60 = .ok (.iload 4, 2) := by decide +kernel
theorem dX7_goes_62 : decode cX7_goes 62 = .ok (.invokevirtual 106, 3) := by decide +kernel
theorem dX7_goes_65 : decode cX7_goes 65 = .ok (.iconst (-1), 1) := by decide +kernel
theorem dX7_goes_66 : decode cX7_goes 66 = .ok (.if_icmp .eq 26, 3) := by decide +kernel
theorem dX7_goes_69 : decode cX7_goes 69 = .ok (.aload_n 0, 1) := by decide +kernel
theorem dX7_goes_70 : decode cX7_goes 70 = .ok (.getfield 7, 3) := by decide +kernel
theorem dX7_goes_73 : decode cX7_goes 73 = .ok (.aload_n 0, 1) := by decide +kernel
theorem dX7_goes_74 : decode cX7_goes 74 = .ok (.iload_n 1, 1) := by decide +kernel
theorem dX7_goes_75 : decode cX7_goes 75 = .ok (.iconst 2, 1) := by decide +kernel
theorem dX7_goes_76 : decode cX7_goes 76 = .ok (.idiv, 1) := by decide +kernel
theorem dX7_goes_77 : decode cX7_goes 77 = .ok (.bipush 6, 2) := by decide +kernel
theorem dX7_goes_79 : decode cX7_goes 79 = .ok (.iload_n 1, 1) := by decide +kernel
theorem dX7_goes_80 : decode cX7_goes 80 = .ok (.iconst 2, 1) := by decide +kernel
theorem dX7_goes_81 : decode cX7_goes 81 = .ok (.irem, 1) := by decide +kernel
theorem dX7_goes_82 : decode cX7_goes 82 = .ok (.iadd, 1) := by decide +kernel
theorem dX7_goes_83 : decode cX7_goes 83 = .ok (.invokevirtual 109, 3) := by decide +kernel
theorem dX7_goes_86 : decode cX7_goes 86 = .ok (.dup2, 1) := by decide +kernel
theorem dX7_goes_87 : decode cX7_goes 87 = .ok (.iaload, 1) := by decide +kernel
theorem dX7_goes_88 : decode cX7_goes 88 = .ok (.iconst 1, 1) := by decide +kernel
theorem dX7_goes_89 : decode cX7_goes 89 = .ok (.iadd, 1) := by decide +kernel
theorem dX7_goes_90 : decode cX7_goes 90 = .ok (.iastore, 1) := by decide +kernel
theorem dX7_goes_91 : decode cX7_goes 91 = .ok (.return_, 1) := by decide +kernel
theorem dX7_goes_92 : decode cX7_goes 92 = .ok (.aload_n 0, 1) := by decide +kernel
theorem dX7_goes_93 : decode cX7_goes 93 = .ok (.getfield 7, 3) := by decide +kernel
theorem dX7_goes_96 : decode cX7_goes 96 = .ok (.aload_n 0, 1) := by decide +kernel
theorem dX7_goes_97 : decode cX7_goes 97 = .ok (.iload_n 1, 1) := by decide +kernel
theorem dX7_goes_98 : decode cX7_goes 98 = .ok (.iconst 2, 1) := by decide +kernel
theorem dX7_goes_99 : decode cX7_goes 99 = .ok (.idiv, 1) := by decide +kernel
theorem dX7_goes_100 : decode cX7_goes 100 = .ok (.iconst 4, 1) := by decide +kernel
theorem dX7_goes_101 : decode cX7_goes 101 = .ok (.iload_n 1, 1) := by decide +kernel
theorem dX7_goes_102 : decode cX7_goes 102 = .ok (.iconst 2, 1) := by decide +kernel
theorem dX7_goes_103 : decode cX7_goes 103 = .ok (.irem, 1) := by decide +kernel
theorem dX7_goes_104 : decode cX7_goes 104 = .ok (.iadd, 1) := by decide +kernel
theorem dX7_goes_105 : decode cX7_goes 105 = .ok (.invokevirtual 109, 3) := by decide +kernel
theorem dX7_goes_108 : decode cX7_goes 108 = .ok (.dup2, 1) := by decide +kernel
theorem dX7_goes_109 : decode cX7_goes 109 = .ok (.iaload, 1) := by decide +kernel
theorem dX7_goes_110 : decode cX7_goes 110 = .ok (.iconst 1, 1) := by decide +kernel
theorem dX7_goes_111 : decode cX7_goes 111 = .ok (.iadd, 1) := by decide +kernel
theorem dX7_goes_112 : decode cX7_goes 112 = .ok (.iastore, 1) := by decide +kernel
theorem dX7_goes_113 : decode cX7_goes 113 = .ok (.return_, 1) := by decide +kernel
theorem dX7_step_0 : decode cX7_step 0 = .ok (.iconst 0, 1) := by decide +kernel
theorem dX7_step_1 : decode cX7_step 1 = .ok (.istore_n 1, 1) := by decide +kernel
theorem dX7_step_2 : decode cX7_step 2 = .ok (.iload_n 1, 1) := by decide +kernel
theorem dX7_step_3 : decode cX7_step 3 = .ok (.iconst 2, 1) := by decide +kernel
theorem dX7_step_4 : decode cX7_step 4 = .ok (.aload_n 0, 1) := by decide +kernel
theorem dX7_step_5 : decode cX7_step 5 = .ok (.getfield 7, 3) := by decide +kernel
theorem dX7_step_8 : decode cX7_step 8 = .ok (.iconst 3, 1) := by decide +kernel
theorem dX7_step_9 : decode cX7_step 9 = .ok (.iaload, 1) := by decide +kernel
theorem dX7_step_10 : decode cX7_step 10 = .ok (.imul, 1) := by decide +kernel
theorem dX7_step_11 : decode cX7_step 11 = .ok (.if_icmp .ge 22, 3) := by decide +kernel
theorem dX7_step_14 : decode cX7_step 14 = .ok (.aload_n 0, 1) := by decide +kernel
theorem dX7_step_15 : decode cX7_step 15 = .ok (.iload_n 1, 1) := by decide +kernel
theorem dX7_step_16 : decode cX7_step 16 = .ok (.invokevirtual 112, 3) := by decide +kernel
theorem dX7_step_19 : decode cX7_step 19 = .ok (.ifCond .ne 8, 3) := by decide +kernel
theorem dX7_step_22 : decode cX7_step 22 = .ok (.aload_n 0, 1) := by decide +kernel
theorem dX7_step_23 : decode cX7_step 23 = .ok (.iload_n 1, 1) := by decide +kernel
theorem dX7_step_24 : decode cX7_step 24 = .ok (.invokevirtual 116, 3) := by decide +kernel
theorem dX7_step_27 : decode cX7_step 27 = .ok (.iinc 1 1, 3) := by decide +kernel
theorem dX7_step_30 : decode cX7_step 30 = .ok (.goto (-28), 3) := by decide +kernel
theorem dX7_step_33 : decode cX7_step 33 = .ok (.aload_n 0, 1) := by decide +kernel
theorem dX7_step_34 : decode cX7_step 34 = .ok (.getfield 7, 3) := by decide +kernel
theorem dX7_step_37 : decode cX7_step 37 = .ok (.iconst 2, 1) := by decide +kernel
theorem dX7_step_38 : decode cX7_step 38 = .ok (.dup2, 1) := by decide +kernel
theorem dX7_step_39 : decode cX7_step 39 = .ok (.iaload, 1) := by decide +kernel
theorem dX7_step_40 : decode cX7_step 40 = .ok (.iconst 1, 1) := by decide +kernel
theorem dX7_step_41 : decode cX7_step 41 = .ok (.iadd, 1) := by decide +kernel
theorem dX7_step_42 : decode cX7_step 42 = .ok (.iastore, 1) := by decide +kernel
theorem dX7_step_43 : decode cX7_step 43 = .ok (.return_, 1) := by decide +kernel
theorem dX7_putMesh_0 : decode cX7_putMesh 0 = .ok (.iload_n 1, 1) := by decide +kernel
theorem dX7_putMesh_1 : decode cX7_putMesh 1 = .ok (.iconst 2, 1) := by decide +kernel
theorem dX7_putMesh_2 : decode cX7_putMesh 2 = .ok (.bipush 6, 2) := by decide +kernel
theorem dX7_putMesh_4 : decode cX7_putMesh 4 = .ok (.invokestatic 54, 3) := by decide +kernel
theorem dX7_putMesh_7 : decode cX7_putMesh 7 = .ok (.ifCond .eq 13, 3) := by decide +kernel
theorem dX7_putMesh_10 : decode cX7_putMesh 10 = .ok (.iload_n 2, 1) := by decide +kernel
theorem dX7_putMesh_11 : decode cX7_putMesh 11 = .ok (.iconst 2, 1) := by decide +kernel
theorem dX7_putMesh_12 : decode cX7_putMesh 12 = .ok (.bipush 6, 2) := by decide +kernel
theorem dX7_putMesh_14 : decode cX7_putMesh 14 = .ok (.invokestatic 54, 3) := by decide +kernel
theorem dX7_putMesh_17 : decode cX7_putMesh 17 = .ok (.ifCond .ne 6, 3) := by decide +kernel
theorem dX7_putMesh_20 : decode cX7_putMesh 20 = .ok (.bipush (-2), 2) := by decide +kernel
theorem dX7_putMesh_22 : decode cX7_putMesh 22 = .ok (.ireturn, 1) := by decide +kernel
theorem dX7_putMesh_23 : decode cX7_putMesh 23 = .ok (.aload_n 0, 1) := by decide +kernel
theorem dX7_putMesh_24 : decode cX7_putMesh 24 = .ok (.getfield 7, 3) := by decide +kernel
theorem dX7_putMesh_27 : decode cX7_putMesh 27 = .ok (.iconst 0, 1) := by decide +kernel
theorem dX7_putMesh_28 : decode cX7_putMesh 28 = .ok (.iaload, 1) := by decide +kernel
theorem dX7_putMesh_29 : decode cX7_putMesh 29 = .ok (.aload_n 0, 1) := by decide +kernel
theorem dX7_putMesh_30 : decode cX7_putMesh 30 = .ok (.getfield 7, 3) := by decide +kernel
theorem dX7_putMesh_33 : decode cX7_putMesh 33 = .ok (.iconst 1, 1) := by decide +kernel
theorem dX7_putMesh_34 : decode cX7_putMesh 34 = .ok (.iaload, 1) := by decide +kernel
theorem dX7_putMesh_35 : decode cX7_putMesh 35 = .ok (.imul, 1) := by decide +kernel
theorem dX7_putMesh_36 : decode cX7_putMesh 36 = .ok (.istore_n 3, 1) := by decide +kernel
theorem dX7_putMesh_37 : decode cX7_putMesh 37 = .ok (.iconst 0, 1) := by decide +kernel
theorem dX7_putMesh_38 : decode cX7_putMesh 38 = .ok (.istore 4, 2) := by decide +kernel
theorem dX7_putMesh_40 : decode cX7_putMesh 40 = .ok (.iload 4, 2) := by decide +kernel
theorem dX7_putMesh_42 : decode cX7_putMesh 42 = .ok (.bipush 80, 2) := by decide +kernel
theorem dX7_putMesh_44 : decode cX7_putMesh 44 = .ok (.if_icmp .ge 17, 3) := by decide +kernel
theorem dX7_putMesh_47 : decode cX7_putMesh 47 = .ok (.aload_n 0, 1) := by decide +kernel
theorem dX7_putMesh_48 : decode cX7_putMesh 48 = .ok (.getfield 7, 3) := by decide +kernel
theorem dX7_putMesh_51 : decode cX7_putMesh 51 = .ok (.iload 4, 2) := by decide +kernel
theorem dX7_putMesh_53 : decode cX7_putMesh 53 = .ok (.iconst 0, 1) := by decide +kernel
theorem dX7_putMesh_54 : decode cX7_putMesh 54 = .ok (.iastore, 1) := by decide +kernel
theorem dX7_putMesh_55 : decode cX7_putMesh 55 = .ok (.iinc 4 1, 3) := by decide +kernel
theorem dX7_putMesh_58 : decode cX7_putMesh 58 = .ok (.goto (-18), 3) := by decide +kernel
theorem dX7_putMesh_61 : decode cX7_putMesh 61 = .ok (.aload_n 0, 1) := by decide +kernel
theorem dX7_putMesh_62 : decode cX7_putMesh 62 = .ok (.getfield 7, 3) := by decide +kernel
theorem dX7_putMesh_65 : decode cX7_putMesh 65 = .ok (.iconst 0, 1) := by decide +kernel
theorem dX7_putMesh_66 : decode cX7_putMesh 66 = .ok (.iload_n 1, 1) := by decide +kernel
theorem dX7_putMesh_67 : decode cX7_putMesh 67 = .ok (.iastore, 1) := by decide +kernel
theorem dX7_putMesh_68 : decode cX7_putMesh 68 = .ok (.aload_n 0, 1) := by decide +kernel
theorem dX7_putMesh_69 : decode cX7_putMesh 69 = .ok (.getfield 7, 3) := by decide +kernel
theorem dX7_putMesh_72 : decode cX7_putMesh 72 = .ok (.iconst 1, 1) := by decide +kernel
theorem dX7_putMesh_73 : decode cX7_putMesh 73 = .ok (.iload_n 2, 1) := by decide +kernel
theorem dX7_putMesh_74 : decode cX7_putMesh 74 = .ok (.iastore, 1) := by decide +kernel
theorem dX7_putMesh_75 : decode cX7_putMesh 75 = .ok (.iload_n 3, 1) := by decide +kernel
theorem dX7_putMesh_76 : decode cX7_putMesh 76 = .ok (.ireturn, 1) := by decide +kernel
theorem dX7_putMessage_0 : decode cX7_putMessage 0 = .ok (.aload_n 0, 1) := by decide +kernel
theorem dX7_putMessage_1 : decode cX7_putMessage 1 = .ok (.iload_n 1, 1) := by decide +kernel
theorem dX7_putMessage_2 : decode cX7_putMessage 2 = .ok (.iload_n 2, 1) := by decide +kernel
theorem dX7_putMessage_3 : decode cX7_putMessage 3 = .ok (.invokevirtual 64, 3) := by decide +kernel
theorem dX7_putMessage_6 : decode cX7_putMessage 6 = .ok (.ifCond .eq 13, 3) := by decide +kernel
theorem dX7_putMessage_9 : decode cX7_putMessage 9 = .ok (.iload_n 3, 1) := by decide +kernel
theorem dX7_putMessage_10 : decode cX7_putMessage 10 = .ok (.iconst 1, 1) := by decide +kernel
theorem dX7_putMessage_11 : decode cX7_putMessage 11 = .ok (.bipush 9, 2) := by decide +kernel
theorem dX7_putMessage_13 : decode cX7_putMessage 13 = .ok (.invokestatic 54, 3) := by decide +kernel
theorem dX7_putMessage_16 : decode cX7_putMessage 16 = .ok (.ifCond .ne 6, 3) := by decide +kernel
theorem dX7_putMessage_19 : decode cX7_putMessage 19 = .ok (.bipush (-2), 2) := by decide +kernel
theorem dX7_putMessage_21 : decode cX7_putMessage 21 = .ok (.ireturn, 1) := by decide +kernel
theorem dX7_putMessage_22 : decode cX7_putMessage 22 = .ok (.aload_n 0, 1) := by decide +kernel
theorem dX7_putMessage_23 : decode cX7_putMessage 23 = .ok (.getfield 7, 3) := by decide +kernel
theorem dX7_putMessage_26 : decode cX7_putMessage 26 = .ok (.iconst 3, 1) := by decide +kernel
theorem dX7_putMessage_27 : decode cX7_putMessage 27 = .ok (.iaload, 1) := by decide +kernel
theorem dX7_putMessage_28 : decode cX7_putMessage 28 = .ok (.iconst 5, 1) := by decide +kernel
theorem dX7_putMessage_29 : decode cX7_putMessage 29 = .ok (.if_icmp .ne 6, 3) := by decide +kernel
theorem dX7_putMessage_32 : decode cX7_putMessage 32 = .ok (.bipush (-4), 2) := by decide +kernel
theorem dX7_putMessage_34 : decode cX7_putMessage 34 = .ok (.ireturn, 1) := by decide +kernel
theorem dX7_putMessage_35 : decode cX7_putMessage 35 = .ok (.aload_n 0, 1) := by decide +kernel
theorem dX7_putMessage_36 : decode cX7_putMessage 36 = .ok (.getfield 7, 3) := by decide +kernel
theorem dX7_putMessage_39 : decode cX7_putMessage 39 = .ok (.iconst 3, 1) := by decide +kernel
theorem dX7_putMessage_40 : decode cX7_putMessage 40 = .ok (.iaload, 1) := by decide +kernel
theorem dX7_putMessage_41 : decode cX7_putMessage 41 = .ok (.istore 4, 2) := by decide +kernel
theorem dX7_putMessage_43 : decode cX7_putMessage 43 = .ok (.iconst 0, 1) := by decide +kernel
theorem dX7_putMessage_44 : decode cX7_putMessage 44 = .ok (.istore 5, 2) := by decide +kernel
theorem dX7_putMessage_46 : decode cX7_putMessage 46 = .ok (.iload 5, 2) := by decide +kernel
theorem dX7_putMessage_48 : decode cX7_putMessage 48 = .ok (.bipush 8, 2) := by decide +kernel
theorem dX7_putMessage_50 : decode cX7_putMessage 50 = .ok (.if_icmp .ge 23, 3) := by decide +kernel
theorem dX7_putMessage_53 : decode cX7_putMessage 53 = .ok (.aload_n 0, 1) := by decide +kernel
theorem dX7_putMessage_54 : decode cX7_putMessage 54 = .ok (.getfield 7, 3) := by decide +kernel
theorem dX7_putMessage_57 : decode cX7_putMessage 57 = .ok (.aload_n 0, 1) := by decide +kernel
theorem dX7_putMessage_58 : decode cX7_putMessage 58 = .ok (.iload 4, 2) := by decide +kernel
theorem dX7_putMessage_60 : decode cX7_putMessage 60 = .ok (.iload 5, 2) := by decide +kernel
theorem dX7_putMessage_62 : decode cX7_putMessage 62 = .ok (.invokevirtual 109, 3) := by decide +kernel
theorem dX7_putMessage_65 : decode cX7_putMessage 65 = .ok (.iconst 0, 1) := by decide +kernel
theorem dX7_putMessage_66 : decode cX7_putMessage 66 = .ok (.iastore, 1) := by decide +kernel
theorem dX7_putMessage_67 : decode cX7_putMessage 67 = .ok (.iinc 5 1, 3) := by decide +kernel
theorem dX7_putMessage_70 : decode cX7_putMessage 70 = .ok (.goto (-24), 3) := by decide +kernel
theorem dX7_putMessage_73 : decode cX7_putMessage 73 = .ok (.aload_n 0, 1) := by decide +kernel
theorem dX7_putMessage_74 : decode cX7_putMessage 74 = .ok (.getfield 7, 3) := by decide +kernel
theorem dX7_putMessage_77 : decode cX7_putMessage 77 = .ok (.aload_n 0, 1) := by decide +kernel
theorem dX7_putMessage_78 : decode cX7_putMessage 78 = .ok (.iload 4, 2) := by decide +kernel
theorem dX7_putMessage_80 : decode cX7_putMessage 80 = .ok (.iconst 0, 1) := by decide +kernel
theorem dX7_putMessage_81 : decode cX7_putMessage 81 = .ok (.invokevirtual 109, 3) := by decide +kernel
theorem dX7_putMessage_84 : decode cX7_putMessage 84 = .ok (.aload_n 0, 1) := by decide +kernel
theorem dX7_putMessage_85 : decode cX7_putMessage 85 = .ok (.iload_n 1, 1) := by decide +kernel
theorem dX7_putMessage_86 : decode cX7_putMessage 86 = .ok (.iload_n 2, 1) := by decide +kernel
theorem dX7_putMessage_87 : decode cX7_putMessage 87 = .ok (.invokevirtual 68, 3) := by decide +kernel
theorem dX7_putMessage_90 : decode cX7_putMessage 90 = .ok (.iastore, 1) := by decide +kernel
theorem dX7_putMessage_91 : decode cX7_putMessage 91 = .ok (.aload_n 0, 1) := by decide +kernel
theorem dX7_putMessage_92 : decode cX7_putMessage 92 = .ok (.getfield 7, 3) := by decide +kernel
theorem dX7_putMessage_95 : decode cX7_putMessage 95 = .ok (.aload_n 0, 1) := by decide +kernel
theorem dX7_putMessage_96 : decode cX7_putMessage 96 = .ok (.iload 4, 2) := by decide +kernel
theorem dX7_putMessage_98 : decode cX7_putMessage 98 = .ok (.iconst 1, 1) := by decide +kernel
theorem dX7_putMessage_99 : decode cX7_putMessage 99 = .ok (.invokevirtual 109, 3) := by decide +kernel
theorem dX7_putMessage_102 : decode cX7_putMessage 102 = .ok (.iload_n 3, 1) := by decide +kernel
theorem dX7_putMessage_103 : decode cX7_putMessage 103 = .ok (.iastore, 1) := by decide +kernel
theorem dX7_putMessage_104 : decode cX7_putMessage 104 = .ok (.aload_n 0, 1) := by decide +kernel
theorem dX7_putMessage_105 : decode cX7_putMessage 105 = .ok (.getfield 7, 3) := by decide +kernel
theorem dX7_putMessage_108 : decode cX7_putMessage 108 = .ok (.iconst 3, 1) := by decide +kernel
theorem dX7_putMessage_109 : decode cX7_putMessage 109 = .ok (.dup2, 1) := by decide +kernel
theorem dX7_putMessage_110 : decode cX7_putMessage 110 = .ok (.iaload, 1) := by decide +kernel
theorem dX7_putMessage_111 : decode cX7_putMessage 111 = .ok (.iconst 1, 1) := by decide +kernel
theorem dX7_putMessage_112 : decode cX7_putMessage 112 = .ok (.iadd, 1) := by decide +kernel
theorem dX7_putMessage_113 : decode cX7_putMessage 113 = .ok (.iastore, 1) := by decide +kernel
theorem dX7_putMessage_114 : decode cX7_putMessage 114 = .ok (.iload 4, 2) := by decide +kernel
theorem dX7_putMessage_116 : decode cX7_putMessage 116 = .ok (.ireturn, 1) := by decide +kernel
theorem dX7_goalsOf_0 : decode cX7_goalsOf 0 = .ok (.iconst 0, 1) := by decide +kernel
theorem dX7_goalsOf_1 : decode cX7_goalsOf 1 = .ok (.istore_n 2, 1) := by decide +kernel
theorem dX7_goalsOf_2 : decode cX7_goalsOf 2 = .ok (.iconst 0, 1) := by decide +kernel
theorem dX7_goalsOf_3 : decode cX7_goalsOf 3 = .ok (.istore_n 3, 1) := by decide +kernel
theorem dX7_goalsOf_4 : decode cX7_goalsOf 4 = .ok (.iload_n 3, 1) := by decide +kernel
theorem dX7_goalsOf_5 : decode cX7_goalsOf 5 = .ok (.bipush 36, 2) := by decide +kernel
theorem dX7_goalsOf_7 : decode cX7_goalsOf 7 = .ok (.if_icmp .ge 26, 3) := by decide +kernel
theorem dX7_goalsOf_10 : decode cX7_goalsOf 10 = .ok (.iload_n 2, 1) := by decide +kernel
theorem dX7_goalsOf_11 : decode cX7_goalsOf 11 = .ok (.aload_n 0, 1) := by decide +kernel
theorem dX7_goalsOf_12 : decode cX7_goalsOf 12 = .ok (.iload_n 1, 1) := by decide +kernel
theorem dX7_goalsOf_13 : decode cX7_goalsOf 13 = .ok (.iload_n 3, 1) := by decide +kernel
theorem dX7_goalsOf_14 : decode cX7_goalsOf 14 = .ok (.invokevirtual 81, 3) := by decide +kernel
theorem dX7_goalsOf_17 : decode cX7_goalsOf 17 = .ok (.ifCond .eq 7, 3) := by decide +kernel
theorem dX7_goalsOf_20 : decode cX7_goalsOf 20 = .ok (.iconst 1, 1) := by decide +kernel
theorem dX7_goalsOf_21 : decode cX7_goalsOf 21 = .ok (.goto 4, 3) := by decide +kernel
theorem dX7_goalsOf_24 : decode cX7_goalsOf 24 = .ok (.iconst 0, 1) := by decide +kernel
theorem dX7_goalsOf_25 : decode cX7_goalsOf 25 = .ok (.iadd, 1) := by decide +kernel
theorem dX7_goalsOf_26 : decode cX7_goalsOf 26 = .ok (.istore_n 2, 1) := by decide +kernel
theorem dX7_goalsOf_27 : decode cX7_goalsOf 27 = .ok (.iinc 3 1, 3) := by decide +kernel
theorem dX7_goalsOf_30 : decode cX7_goalsOf 30 = .ok (.goto (-26), 3) := by decide +kernel
theorem dX7_goalsOf_33 : decode cX7_goalsOf 33 = .ok (.iload_n 2, 1) := by decide +kernel
theorem dX7_goalsOf_34 : decode cX7_goalsOf 34 = .ok (.ireturn, 1) := by decide +kernel
theorem dX7_putGoal_0 : decode cX7_putGoal 0 = .ok (.aload_n 0, 1) := by decide +kernel
theorem dX7_putGoal_1 : decode cX7_putGoal 1 = .ok (.iload_n 1, 1) := by decide +kernel
theorem dX7_putGoal_2 : decode cX7_putGoal 2 = .ok (.invokevirtual 120, 3) := by decide +kernel
theorem dX7_putGoal_5 : decode cX7_putGoal 5 = .ok (.ifCond .eq 27, 3) := by decide +kernel
theorem dX7_putGoal_8 : decode cX7_putGoal 8 = .ok (.aload_n 0, 1) := by decide +kernel
theorem dX7_putGoal_9 : decode cX7_putGoal 9 = .ok (.iload_n 2, 1) := by decide +kernel
theorem dX7_putGoal_10 : decode cX7_putGoal 10 = .ok (.iload_n 3, 1) := by decide +kernel
theorem dX7_putGoal_11 : decode cX7_putGoal 11 = .ok (.invokevirtual 64, 3) := by decide +kernel
theorem dX7_putGoal_14 : decode cX7_putGoal 14 = .ok (.ifCond .eq 18, 3) := by decide +kernel
theorem dX7_putGoal_17 : decode cX7_putGoal 17 = .ok (.aload_n 0, 1) := by decide +kernel
theorem dX7_putGoal_18 : decode cX7_putGoal 18 = .ok (.iload_n 2, 1) := by decide +kernel
theorem dX7_putGoal_19 : decode cX7_putGoal 19 = .ok (.iload_n 3, 1) := by decide +kernel
theorem dX7_putGoal_20 : decode cX7_putGoal 20 = .ok (.invokevirtual 68, 3) := by decide +kernel
theorem dX7_putGoal_23 : decode cX7_putGoal 23 = .ok (.aload_n 0, 1) := by decide +kernel
theorem dX7_putGoal_24 : decode cX7_putGoal 24 = .ok (.iload_n 1, 1) := by decide +kernel
theorem dX7_putGoal_25 : decode cX7_putGoal 25 = .ok (.iconst 0, 1) := by decide +kernel
theorem dX7_putGoal_26 : decode cX7_putGoal 26 = .ok (.invokevirtual 78, 3) := by decide +kernel
theorem dX7_putGoal_29 : decode cX7_putGoal 29 = .ok (.if_icmp .ne 6, 3) := by decide +kernel
theorem dX7_putGoal_32 : decode cX7_putGoal 32 = .ok (.bipush (-2), 2) := by decide +kernel
theorem dX7_putGoal_34 : decode cX7_putGoal 34 = .ok (.ireturn, 1) := by decide +kernel
theorem dX7_putGoal_35 : decode cX7_putGoal 35 = .ok (.aload_n 0, 1) := by decide +kernel
theorem dX7_putGoal_36 : decode cX7_putGoal 36 = .ok (.iload_n 1, 1) := by decide +kernel
theorem dX7_putGoal_37 : decode cX7_putGoal 37 = .ok (.iconst 4, 1) := by decide +kernel
theorem dX7_putGoal_38 : decode cX7_putGoal 38 = .ok (.invokevirtual 78, 3) := by decide +kernel
theorem dX7_putGoal_41 : decode cX7_putGoal 41 = .ok (.ifCond .gt 12, 3) := by decide +kernel
theorem dX7_putGoal_44 : decode cX7_putGoal 44 = .ok (.aload_n 0, 1) := by decide +kernel
theorem dX7_putGoal_45 : decode cX7_putGoal 45 = .ok (.iload_n 1, 1) := by decide +kernel
theorem dX7_putGoal_46 : decode cX7_putGoal 46 = .ok (.iconst 5, 1) := by decide +kernel
theorem dX7_putGoal_47 : decode cX7_putGoal 47 = .ok (.invokevirtual 78, 3) := by decide +kernel
theorem dX7_putGoal_50 : decode cX7_putGoal 50 = .ok (.ifCond .le 6, 3) := by decide +kernel
theorem dX7_putGoal_53 : decode cX7_putGoal 53 = .ok (.bipush (-3), 2) := by decide +kernel
theorem dX7_putGoal_55 : decode cX7_putGoal 55 = .ok (.ireturn, 1) := by decide +kernel
theorem dX7_putGoal_56 : decode cX7_putGoal 56 = .ok (.aload_n 0, 1) := by decide +kernel
theorem dX7_putGoal_57 : decode cX7_putGoal 57 = .ok (.iload_n 2, 1) := by decide +kernel
theorem dX7_putGoal_58 : decode cX7_putGoal 58 = .ok (.iload_n 3, 1) := by decide +kernel
theorem dX7_putGoal_59 : decode cX7_putGoal 59 = .ok (.invokevirtual 68, 3) := by decide +kernel
theorem dX7_putGoal_62 : decode cX7_putGoal 62 = .ok (.istore 4, 2) := by decide +kernel
theorem dX7_putGoal_64 : decode cX7_putGoal 64 = .ok (.aload_n 0, 1) := by decide +kernel
theorem dX7_putGoal_65 : decode cX7_putGoal 65 = .ok (.getfield 7, 3) := by decide +kernel
theorem dX7_putGoal_68 : decode cX7_putGoal 68 = .ok (.aload_n 0, 1) := by decide +kernel
theorem dX7_putGoal_69 : decode cX7_putGoal 69 = .ok (.iload_n 1, 1) := by decide +kernel
theorem dX7_putGoal_70 : decode cX7_putGoal 70 = .ok (.iconst 2, 1) := by decide +kernel
theorem dX7_putGoal_71 : decode cX7_putGoal 71 = .ok (.iload 4, 2) := by decide +kernel
theorem dX7_putGoal_73 : decode cX7_putGoal 73 = .ok (.bipush 18, 2) := by decide +kernel
theorem dX7_putGoal_75 : decode cX7_putGoal 75 = .ok (.idiv, 1) := by decide +kernel
theorem dX7_putGoal_76 : decode cX7_putGoal 76 = .ok (.iadd, 1) := by decide +kernel
theorem dX7_putGoal_77 : decode cX7_putGoal 77 = .ok (.invokevirtual 109, 3) := by decide +kernel
theorem dX7_putGoal_80 : decode cX7_putGoal 80 = .ok (.dup2, 1) := by decide +kernel
theorem dX7_putGoal_81 : decode cX7_putGoal 81 = .ok (.iaload, 1) := by decide +kernel
theorem dX7_putGoal_82 : decode cX7_putGoal 82 = .ok (.iconst 1, 1) := by decide +kernel
theorem dX7_putGoal_83 : decode cX7_putGoal 83 = .ok (.iload 4, 2) := by decide +kernel
theorem dX7_putGoal_85 : decode cX7_putGoal 85 = .ok (.bipush 18, 2) := by decide +kernel
theorem dX7_putGoal_87 : decode cX7_putGoal 87 = .ok (.irem, 1) := by decide +kernel
theorem dX7_putGoal_88 : decode cX7_putGoal 88 = .ok (.ishl, 1) := by decide +kernel
theorem dX7_putGoal_89 : decode cX7_putGoal 89 = .ok (.ixor, 1) := by decide +kernel
theorem dX7_putGoal_90 : decode cX7_putGoal 90 = .ok (.iastore, 1) := by decide +kernel
theorem dX7_putGoal_91 : decode cX7_putGoal 91 = .ok (.aload_n 0, 1) := by decide +kernel
theorem dX7_putGoal_92 : decode cX7_putGoal 92 = .ok (.iload_n 1, 1) := by decide +kernel
theorem dX7_putGoal_93 : decode cX7_putGoal 93 = .ok (.invokevirtual 123, 3) := by decide +kernel
theorem dX7_putGoal_96 : decode cX7_putGoal 96 = .ok (.ireturn, 1) := by decide +kernel
theorem dX7_isChannel_0 : decode cX7_isChannel 0 = .ok (.aload_n 0, 1) := by decide +kernel
theorem dX7_isChannel_1 : decode cX7_isChannel 1 = .ok (.iload_n 1, 1) := by decide +kernel
theorem dX7_isChannel_2 : decode cX7_isChannel 2 = .ok (.iload_n 2, 1) := by decide +kernel
theorem dX7_isChannel_3 : decode cX7_isChannel 3 = .ok (.invokevirtual 64, 3) := by decide +kernel
theorem dX7_isChannel_6 : decode cX7_isChannel 6 = .ok (.ifCond .eq 31, 3) := by decide +kernel
theorem dX7_isChannel_9 : decode cX7_isChannel 9 = .ok (.iload_n 3, 1) := by decide +kernel
theorem dX7_isChannel_10 : decode cX7_isChannel 10 = .ok (.iconst 0, 1) := by decide +kernel
theorem dX7_isChannel_11 : decode cX7_isChannel 11 = .ok (.iconst 3, 1) := by decide +kernel
theorem dX7_isChannel_12 : decode cX7_isChannel 12 = .ok (.invokestatic 54, 3) := by decide +kernel
theorem dX7_isChannel_15 : decode cX7_isChannel 15 = .ok (.ifCond .eq 22, 3) := by decide +kernel
theorem dX7_isChannel_18 : decode cX7_isChannel 18 = .ok (.aload_n 0, 1) := by decide +kernel
theorem dX7_isChannel_19 : decode cX7_isChannel 19 = .ok (.aload_n 0, 1) := by decide +kernel
theorem dX7_isChannel_20 : decode cX7_isChannel 20 = .ok (.iload_n 1, 1) := by decide +kernel
theorem dX7_isChannel_21 : decode cX7_isChannel 21 = .ok (.iload_n 2, 1) := by decide +kernel
theorem dX7_isChannel_22 : decode cX7_isChannel 22 = .ok (.invokevirtual 68, 3) := by decide +kernel
theorem dX7_isChannel_25 : decode cX7_isChannel 25 = .ok (.iload_n 3, 1) := by decide +kernel
theorem dX7_isChannel_26 : decode cX7_isChannel 26 = .ok (.invokevirtual 72, 3) := by decide +kernel
theorem dX7_isChannel_29 : decode cX7_isChannel 29 = .ok (.iconst (-1), 1) := by decide +kernel
theorem dX7_isChannel_30 : decode cX7_isChannel 30 = .ok (.if_icmp .eq 7, 3) := by decide +kernel
theorem dX7_isChannel_33 : decode cX7_isChannel 33 = .ok (.iconst 1, 1) := by decide +kernel
theorem dX7_isChannel_34 : decode cX7_isChannel 34 = .ok (.goto 4, 3) := by decide +kernel
theorem dX7_isChannel_37 : decode cX7_isChannel 37 = .ok (.iconst 0, 1) := by decide +kernel
theorem dX7_isChannel_38 : decode cX7_isChannel 38 = .ok (.ireturn, 1) := by decide +kernel
theorem dX7_putTurn_0 : decode cX7_putTurn 0 = .ok (.aload_n 0, 1) := by decide +kernel
theorem dX7_putTurn_1 : decode cX7_putTurn 1 = .ok (.iload_n 1, 1) := by decide +kernel
theorem dX7_putTurn_2 : decode cX7_putTurn 2 = .ok (.iload_n 2, 1) := by decide +kernel
theorem dX7_putTurn_3 : decode cX7_putTurn 3 = .ok (.iload_n 3, 1) := by decide +kernel
theorem dX7_putTurn_4 : decode cX7_putTurn 4 = .ok (.invokevirtual 126, 3) := by decide +kernel
theorem dX7_putTurn_7 : decode cX7_putTurn 7 = .ok (.ifCond .ne 6, 3) := by decide +kernel
theorem dX7_putTurn_10 : decode cX7_putTurn 10 = .ok (.bipush (-2), 2) := by decide +kernel
theorem dX7_putTurn_12 : decode cX7_putTurn 12 = .ok (.ireturn, 1) := by decide +kernel
theorem dX7_putTurn_13 : decode cX7_putTurn 13 = .ok (.aload_n 0, 1) := by decide +kernel
theorem dX7_putTurn_14 : decode cX7_putTurn 14 = .ok (.getfield 7, 3) := by decide +kernel
theorem dX7_putTurn_17 : decode cX7_putTurn 17 = .ok (.bipush 44, 2) := by decide +kernel
theorem dX7_putTurn_19 : decode cX7_putTurn 19 = .ok (.aload_n 0, 1) := by decide +kernel
theorem dX7_putTurn_20 : decode cX7_putTurn 20 = .ok (.iload_n 1, 1) := by decide +kernel
theorem dX7_putTurn_21 : decode cX7_putTurn 21 = .ok (.iload_n 2, 1) := by decide +kernel
theorem dX7_putTurn_22 : decode cX7_putTurn 22 = .ok (.invokevirtual 68, 3) := by decide +kernel
theorem dX7_putTurn_25 : decode cX7_putTurn 25 = .ok (.iadd, 1) := by decide +kernel
theorem dX7_putTurn_26 : decode cX7_putTurn 26 = .ok (.dup2, 1) := by decide +kernel
theorem dX7_putTurn_27 : decode cX7_putTurn 27 = .ok (.iaload, 1) := by decide +kernel
theorem dX7_putTurn_28 : decode cX7_putTurn 28 = .ok (.iconst 1, 1) := by decide +kernel
theorem dX7_putTurn_29 : decode cX7_putTurn 29 = .ok (.iload_n 3, 1) := by decide +kernel
theorem dX7_putTurn_30 : decode cX7_putTurn 30 = .ok (.ishl, 1) := by decide +kernel
theorem dX7_putTurn_31 : decode cX7_putTurn 31 = .ok (.ixor, 1) := by decide +kernel
theorem dX7_putTurn_32 : decode cX7_putTurn 32 = .ok (.iastore, 1) := by decide +kernel
theorem dX7_putTurn_33 : decode cX7_putTurn 33 = .ok (.aload_n 0, 1) := by decide +kernel
theorem dX7_putTurn_34 : decode cX7_putTurn 34 = .ok (.aload_n 0, 1) := by decide +kernel
theorem dX7_putTurn_35 : decode cX7_putTurn 35 = .ok (.iload_n 1, 1) := by decide +kernel
theorem dX7_putTurn_36 : decode cX7_putTurn 36 = .ok (.iload_n 2, 1) := by decide +kernel
theorem dX7_putTurn_37 : decode cX7_putTurn 37 = .ok (.invokevirtual 68, 3) := by decide +kernel
theorem dX7_putTurn_40 : decode cX7_putTurn 40 = .ok (.iload_n 3, 1) := by decide +kernel
theorem dX7_putTurn_41 : decode cX7_putTurn 41 = .ok (.invokevirtual 103, 3) := by decide +kernel
theorem dX7_putTurn_44 : decode cX7_putTurn 44 = .ok (.ifCond .eq 7, 3) := by decide +kernel
theorem dX7_putTurn_47 : decode cX7_putTurn 47 = .ok (.iconst 0, 1) := by decide +kernel
theorem dX7_putTurn_48 : decode cX7_putTurn 48 = .ok (.goto 4, 3) := by decide +kernel
theorem dX7_putTurn_51 : decode cX7_putTurn 51 = .ok (.iconst 1, 1) := by decide +kernel
theorem dX7_putTurn_52 : decode cX7_putTurn 52 = .ok (.ireturn, 1) := by decide +kernel
theorem dX7_notDone_0 : decode cX7_notDone 0 = .ok (.iconst 0, 1) := by decide +kernel
theorem dX7_notDone_1 : decode cX7_notDone 1 = .ok (.istore_n 1, 1) := by decide +kernel
theorem dX7_notDone_2 : decode cX7_notDone 2 = .ok (.iconst 0, 1) := by decide +kernel
theorem dX7_notDone_3 : decode cX7_notDone 3 = .ok (.istore_n 2, 1) := by decide +kernel
theorem dX7_notDone_4 : decode cX7_notDone 4 = .ok (.iload_n 2, 1) := by decide +kernel
theorem dX7_notDone_5 : decode cX7_notDone 5 = .ok (.iconst 2, 1) := by decide +kernel
theorem dX7_notDone_6 : decode cX7_notDone 6 = .ok (.aload_n 0, 1) := by decide +kernel
theorem dX7_notDone_7 : decode cX7_notDone 7 = .ok (.getfield 7, 3) := by decide +kernel
theorem dX7_notDone_10 : decode cX7_notDone 10 = .ok (.iconst 3, 1) := by decide +kernel
theorem dX7_notDone_11 : decode cX7_notDone 11 = .ok (.iaload, 1) := by decide +kernel
theorem dX7_notDone_12 : decode cX7_notDone 12 = .ok (.imul, 1) := by decide +kernel
theorem dX7_notDone_13 : decode cX7_notDone 13 = .ok (.if_icmp .ge 25, 3) := by decide +kernel
theorem dX7_notDone_16 : decode cX7_notDone 16 = .ok (.iload_n 1, 1) := by decide +kernel
theorem dX7_notDone_17 : decode cX7_notDone 17 = .ok (.aload_n 0, 1) := by decide +kernel
theorem dX7_notDone_18 : decode cX7_notDone 18 = .ok (.iload_n 2, 1) := by decide +kernel
theorem dX7_notDone_19 : decode cX7_notDone 19 = .ok (.invokevirtual 112, 3) := by decide +kernel
theorem dX7_notDone_22 : decode cX7_notDone 22 = .ok (.ifCond .eq 7, 3) := by decide +kernel
theorem dX7_notDone_25 : decode cX7_notDone 25 = .ok (.iconst 0, 1) := by decide +kernel
theorem dX7_notDone_26 : decode cX7_notDone 26 = .ok (.goto 4, 3) := by decide +kernel
theorem dX7_notDone_29 : decode cX7_notDone 29 = .ok (.iconst 1, 1) := by decide +kernel
theorem dX7_notDone_30 : decode cX7_notDone 30 = .ok (.iadd, 1) := by decide +kernel
theorem dX7_notDone_31 : decode cX7_notDone 31 = .ok (.istore_n 1, 1) := by decide +kernel
theorem dX7_notDone_32 : decode cX7_notDone 32 = .ok (.iinc 2 1, 3) := by decide +kernel
theorem dX7_notDone_35 : decode cX7_notDone 35 = .ok (.goto (-31), 3) := by decide +kernel
theorem dX7_notDone_38 : decode cX7_notDone 38 = .ok (.iload_n 1, 1) := by decide +kernel
theorem dX7_notDone_39 : decode cX7_notDone 39 = .ok (.ireturn, 1) := by decide +kernel
theorem dX7_putSteps_0 : decode cX7_putSteps 0 = .ok (.iload_n 1, 1) := by decide +kernel
theorem dX7_putSteps_1 : decode cX7_putSteps 1 = .ok (.iconst 1, 1) := by decide +kernel
theorem dX7_putSteps_2 : decode cX7_putSteps 2 = .ok (.sipush 200, 3) := by decide +kernel
theorem dX7_putSteps_5 : decode cX7_putSteps 5 = .ok (.invokestatic 54, 3) := by decide +kernel
theorem dX7_putSteps_8 : decode cX7_putSteps 8 = .ok (.ifCond .ne 6, 3) := by decide +kernel
theorem dX7_putSteps_11 : decode cX7_putSteps 11 = .ok (.bipush (-2), 2) := by decide +kernel
theorem dX7_putSteps_13 : decode cX7_putSteps 13 = .ok (.ireturn, 1) := by decide +kernel
theorem dX7_putSteps_14 : decode cX7_putSteps 14 = .ok (.aload_n 0, 1) := by decide +kernel
theorem dX7_putSteps_15 : decode cX7_putSteps 15 = .ok (.invokevirtual 129, 3) := by decide +kernel
theorem dX7_putSteps_18 : decode cX7_putSteps 18 = .ok (.iconst 0, 1) := by decide +kernel
theorem dX7_putSteps_19 : decode cX7_putSteps 19 = .ok (.istore_n 2, 1) := by decide +kernel
theorem dX7_putSteps_20 : decode cX7_putSteps 20 = .ok (.iload_n 2, 1) := by decide +kernel
theorem dX7_putSteps_21 : decode cX7_putSteps 21 = .ok (.iload_n 1, 1) := by decide +kernel
theorem dX7_putSteps_22 : decode cX7_putSteps 22 = .ok (.if_icmp .ge 13, 3) := by decide +kernel
theorem dX7_putSteps_25 : decode cX7_putSteps 25 = .ok (.aload_n 0, 1) := by decide +kernel
theorem dX7_putSteps_26 : decode cX7_putSteps 26 = .ok (.invokevirtual 132, 3) := by decide +kernel
theorem dX7_putSteps_29 : decode cX7_putSteps 29 = .ok (.iinc 2 1, 3) := by decide +kernel
theorem dX7_putSteps_32 : decode cX7_putSteps 32 = .ok (.goto (-12), 3) := by decide +kernel
theorem dX7_putSteps_35 : decode cX7_putSteps 35 = .ok (.aload_n 0, 1) := by decide +kernel
theorem dX7_putSteps_36 : decode cX7_putSteps 36 = .ok (.invokevirtual 135, 3) := by decide +kernel
theorem dX7_putSteps_39 : decode cX7_putSteps 39 = .ok (.ireturn, 1) := by decide +kernel
theorem dX7_putAgain_0 : decode cX7_putAgain 0 = .ok (.aload_n 0, 1) := by decide +kernel
theorem dX7_putAgain_1 : decode cX7_putAgain 1 = .ok (.getfield 7, 3) := by decide +kernel
theorem dX7_putAgain_4 : decode cX7_putAgain 4 = .ok (.iconst 2, 1) := by decide +kernel
theorem dX7_putAgain_5 : decode cX7_putAgain 5 = .ok (.iaload, 1) := by decide +kernel
theorem dX7_putAgain_6 : decode cX7_putAgain 6 = .ok (.istore_n 1, 1) := by decide +kernel
theorem dX7_putAgain_7 : decode cX7_putAgain 7 = .ok (.aload_n 0, 1) := by decide +kernel
theorem dX7_putAgain_8 : decode cX7_putAgain 8 = .ok (.getfield 7, 3) := by decide +kernel
theorem dX7_putAgain_11 : decode cX7_putAgain 11 = .ok (.iconst 2, 1) := by decide +kernel
theorem dX7_putAgain_12 : decode cX7_putAgain 12 = .ok (.iconst 0, 1) := by decide +kernel
theorem dX7_putAgain_13 : decode cX7_putAgain 13 = .ok (.iastore, 1) := by decide +kernel
theorem dX7_putAgain_14 : decode cX7_putAgain 14 = .ok (.iconst 0, 1) := by decide +kernel
theorem dX7_putAgain_15 : decode cX7_putAgain 15 = .ok (.istore_n 2, 1) := by decide +kernel
theorem dX7_putAgain_16 : decode cX7_putAgain 16 = .ok (.iload_n 2, 1) := by decide +kernel
theorem dX7_putAgain_17 : decode cX7_putAgain 17 = .ok (.aload_n 0, 1) := by decide +kernel
theorem dX7_putAgain_18 : decode cX7_putAgain 18 = .ok (.getfield 7, 3) := by decide +kernel
theorem dX7_putAgain_21 : decode cX7_putAgain 21 = .ok (.iconst 3, 1) := by decide +kernel
theorem dX7_putAgain_22 : decode cX7_putAgain 22 = .ok (.iaload, 1) := by decide +kernel
theorem dX7_putAgain_23 : decode cX7_putAgain 23 = .ok (.if_icmp .ge 35, 3) := by decide +kernel
theorem dX7_putAgain_26 : decode cX7_putAgain 26 = .ok (.iconst 4, 1) := by decide +kernel
theorem dX7_putAgain_27 : decode cX7_putAgain 27 = .ok (.istore_n 3, 1) := by decide +kernel
theorem dX7_putAgain_28 : decode cX7_putAgain 28 = .ok (.iload_n 3, 1) := by decide +kernel
theorem dX7_putAgain_29 : decode cX7_putAgain 29 = .ok (.bipush 8, 2) := by decide +kernel
theorem dX7_putAgain_31 : decode cX7_putAgain 31 = .ok (.if_icmp .ge 21, 3) := by decide +kernel
theorem dX7_putAgain_34 : decode cX7_putAgain 34 = .ok (.aload_n 0, 1) := by decide +kernel
theorem dX7_putAgain_35 : decode cX7_putAgain 35 = .ok (.getfield 7, 3) := by decide +kernel
theorem dX7_putAgain_38 : decode cX7_putAgain 38 = .ok (.aload_n 0, 1) := by decide +kernel
theorem dX7_putAgain_39 : decode cX7_putAgain 39 = .ok (.iload_n 2, 1) := by decide +kernel
theorem dX7_putAgain_40 : decode cX7_putAgain 40 = .ok (.iload_n 3, 1) := by decide +kernel
theorem dX7_putAgain_41 : decode cX7_putAgain 41 = .ok (.invokevirtual 109, 3) := by decide +kernel
theorem dX7_putAgain_44 : decode cX7_putAgain 44 = .ok (.iconst 0, 1) := by decide +kernel
theorem dX7_putAgain_45 : decode cX7_putAgain 45 = .ok (.iastore, 1) := by decide +kernel
theorem dX7_putAgain_46 : decode cX7_putAgain 46 = .ok (.iinc 3 1, 3) := by decide +kernel
theorem dX7_putAgain_49 : decode cX7_putAgain 49 = .ok (.goto (-21), 3) := by decide +kernel
theorem dX7_putAgain_52 : decode cX7_putAgain 52 = .ok (.iinc 2 1, 3) := by decide +kernel
theorem dX7_putAgain_55 : decode cX7_putAgain 55 = .ok (.goto (-39), 3) := by decide +kernel
theorem dX7_putAgain_58 : decode cX7_putAgain 58 = .ok (.iload_n 1, 1) := by decide +kernel
theorem dX7_putAgain_59 : decode cX7_putAgain 59 = .ok (.ireturn, 1) := by decide +kernel
theorem dX7_mesh_0 : decode cX7_mesh 0 = .ok (.aload_n 0, 1) := by decide +kernel
theorem dX7_mesh_1 : decode cX7_mesh 1 = .ok (.invokevirtual 139, 3) := by decide +kernel
theorem dX7_mesh_4 : decode cX7_mesh 4 = .ok (.aload_n 0, 1) := by decide +kernel
theorem dX7_mesh_5 : decode cX7_mesh 5 = .ok (.aload_n 0, 1) := by decide +kernel
theorem dX7_mesh_6 : decode cX7_mesh 6 = .ok (.iload_n 1, 1) := by decide +kernel
theorem dX7_mesh_7 : decode cX7_mesh 7 = .ok (.iload_n 2, 1) := by decide +kernel
theorem dX7_mesh_8 : decode cX7_mesh 8 = .ok (.invokevirtual 142, 3) := by decide +kernel
theorem dX7_mesh_11 : decode cX7_mesh 11 = .ok (.invokevirtual 145, 3) := by decide +kernel
theorem dX7_mesh_14 : decode cX7_mesh 14 = .ok (.ireturn, 1) := by decide +kernel
theorem dX7_message_0 : decode cX7_message 0 = .ok (.aload_n 0, 1) := by decide +kernel
theorem dX7_message_1 : decode cX7_message 1 = .ok (.invokevirtual 139, 3) := by decide +kernel
theorem dX7_message_4 : decode cX7_message 4 = .ok (.aload_n 0, 1) := by decide +kernel
theorem dX7_message_5 : decode cX7_message 5 = .ok (.aload_n 0, 1) := by decide +kernel
theorem dX7_message_6 : decode cX7_message 6 = .ok (.iload_n 1, 1) := by decide +kernel
theorem dX7_message_7 : decode cX7_message 7 = .ok (.iload_n 2, 1) := by decide +kernel
theorem dX7_message_8 : decode cX7_message 8 = .ok (.iload_n 3, 1) := by decide +kernel
theorem dX7_message_9 : decode cX7_message 9 = .ok (.invokevirtual 148, 3) := by decide +kernel
theorem dX7_message_12 : decode cX7_message 12 = .ok (.invokevirtual 145, 3) := by decide +kernel
theorem dX7_message_15 : decode cX7_message 15 = .ok (.ireturn, 1) := by decide +kernel
theorem dX7_goal_0 : decode cX7_goal 0 = .ok (.aload_n 0, 1) := by decide +kernel
theorem dX7_goal_1 : decode cX7_goal 1 = .ok (.invokevirtual 139, 3) := by decide +kernel
theorem dX7_goal_4 : decode cX7_goal 4 = .ok (.aload_n 0, 1) := by decide +kernel
theorem dX7_goal_5 : decode cX7_goal 5 = .ok (.aload_n 0, 1) := by decide +kernel
theorem dX7_goal_6 : decode cX7_goal 6 = .ok (.iload_n 1, 1) := by decide +kernel
theorem dX7_goal_7 : decode cX7_goal 7 = .ok (.iload_n 2, 1) := by decide +kernel
theorem dX7_goal_8 : decode cX7_goal 8 = .ok (.iload_n 3, 1) := by decide +kernel
theorem dX7_goal_9 : decode cX7_goal 9 = .ok (.invokevirtual 152, 3) := by decide +kernel
theorem dX7_goal_12 : decode cX7_goal 12 = .ok (.invokevirtual 145, 3) := by decide +kernel
theorem dX7_goal_15 : decode cX7_goal 15 = .ok (.ireturn, 1) := by decide +kernel
theorem dX7_turns_0 : decode cX7_turns 0 = .ok (.aload_n 0, 1) := by decide +kernel
theorem dX7_turns_1 : decode cX7_turns 1 = .ok (.invokevirtual 139, 3) := by decide +kernel
theorem dX7_turns_4 : decode cX7_turns 4 = .ok (.aload_n 0, 1) := by decide +kernel
theorem dX7_turns_5 : decode cX7_turns 5 = .ok (.aload_n 0, 1) := by decide +kernel
theorem dX7_turns_6 : decode cX7_turns 6 = .ok (.iload_n 1, 1) := by decide +kernel
theorem dX7_turns_7 : decode cX7_turns 7 = .ok (.iload_n 2, 1) := by decide +kernel
theorem dX7_turns_8 : decode cX7_turns 8 = .ok (.iload_n 3, 1) := by decide +kernel
theorem dX7_turns_9 : decode cX7_turns 9 = .ok (.invokevirtual 155, 3) := by decide +kernel
theorem dX7_turns_12 : decode cX7_turns 12 = .ok (.invokevirtual 145, 3) := by decide +kernel
theorem dX7_turns_15 : decode cX7_turns 15 = .ok (.ireturn, 1) := by decide +kernel
theorem dX7_steps_0 : decode cX7_steps 0 = .ok (.aload_n 0, 1) := by decide +kernel
theorem dX7_steps_1 : decode cX7_steps 1 = .ok (.invokevirtual 139, 3) := by decide +kernel
theorem dX7_steps_4 : decode cX7_steps 4 = .ok (.aload_n 0, 1) := by decide +kernel
theorem dX7_steps_5 : decode cX7_steps 5 = .ok (.aload_n 0, 1) := by decide +kernel
theorem dX7_steps_6 : decode cX7_steps 6 = .ok (.iload_n 1, 1) := by decide +kernel
theorem dX7_steps_7 : decode cX7_steps 7 = .ok (.invokevirtual 158, 3) := by decide +kernel
theorem dX7_steps_10 : decode cX7_steps 10 = .ok (.invokevirtual 145, 3) := by decide +kernel
theorem dX7_steps_13 : decode cX7_steps 13 = .ok (.ireturn, 1) := by decide +kernel
theorem dX7_again_0 : decode cX7_again 0 = .ok (.aload_n 0, 1) := by decide +kernel
theorem dX7_again_1 : decode cX7_again 1 = .ok (.invokevirtual 139, 3) := by decide +kernel
theorem dX7_again_4 : decode cX7_again 4 = .ok (.aload_n 0, 1) := by decide +kernel
theorem dX7_again_5 : decode cX7_again 5 = .ok (.aload_n 0, 1) := by decide +kernel
theorem dX7_again_6 : decode cX7_again 6 = .ok (.invokevirtual 161, 3) := by decide +kernel
theorem dX7_again_9 : decode cX7_again 9 = .ok (.invokevirtual 145, 3) := by decide +kernel
theorem dX7_again_12 : decode cX7_again 12 = .ok (.ireturn, 1) := by decide +kernel
theorem dX7_label_0 : decode cX7_label 0 = .ok (.aload_n 0, 1) := by decide +kernel
theorem dX7_label_1 : decode cX7_label 1 = .ok (.iload_n 1, 1) := by decide +kernel
theorem dX7_label_2 : decode cX7_label 2 = .ok (.iload_n 2, 1) := by decide +kernel
theorem dX7_label_3 : decode cX7_label 3 = .ok (.invokevirtual 64, 3) := by decide +kernel
theorem dX7_label_6 : decode cX7_label 6 = .ok (.ifCond .eq 12, 3) := by decide +kernel
theorem dX7_label_9 : decode cX7_label 9 = .ok (.aload_n 0, 1) := by decide +kernel
theorem dX7_label_10 : decode cX7_label 10 = .ok (.iload_n 1, 1) := by decide +kernel
theorem dX7_label_11 : decode cX7_label 11 = .ok (.iload_n 2, 1) := by decide +kernel
theorem dX7_label_12 : decode cX7_label 12 = .ok (.invokevirtual 68, 3) := by decide +kernel
theorem dX7_label_15 : decode cX7_label 15 = .ok (.goto 9, 3) := by decide +kernel
theorem dX7_label_18 : decode cX7_label 18 = .ok (.aload_n 0, 1) := by decide +kernel
theorem dX7_label_19 : decode cX7_label 19 = .ok (.bipush (-2), 2) := by decide +kernel
theorem dX7_label_21 : decode cX7_label 21 = .ok (.invokevirtual 47, 3) := by decide +kernel
theorem dX7_label_24 : decode cX7_label 24 = .ok (.ireturn, 1) := by decide +kernel
theorem dX7_isLabel_0 : decode cX7_isLabel 0 = .ok (.iload_n 1, 1) := by decide +kernel
theorem dX7_isLabel_1 : decode cX7_isLabel 1 = .ok (.iconst 0, 1) := by decide +kernel
theorem dX7_isLabel_2 : decode cX7_isLabel 2 = .ok (.aload_n 0, 1) := by decide +kernel
theorem dX7_isLabel_3 : decode cX7_isLabel 3 = .ok (.getfield 7, 3) := by decide +kernel
theorem dX7_isLabel_6 : decode cX7_isLabel 6 = .ok (.iconst 0, 1) := by decide +kernel
theorem dX7_isLabel_7 : decode cX7_isLabel 7 = .ok (.iaload, 1) := by decide +kernel
theorem dX7_isLabel_8 : decode cX7_isLabel 8 = .ok (.aload_n 0, 1) := by decide +kernel
theorem dX7_isLabel_9 : decode cX7_isLabel 9 = .ok (.getfield 7, 3) := by decide +kernel
theorem dX7_isLabel_12 : decode cX7_isLabel 12 = .ok (.iconst 1, 1) := by decide +kernel
theorem dX7_isLabel_13 : decode cX7_isLabel 13 = .ok (.iaload, 1) := by decide +kernel
theorem dX7_isLabel_14 : decode cX7_isLabel 14 = .ok (.imul, 1) := by decide +kernel
theorem dX7_isLabel_15 : decode cX7_isLabel 15 = .ok (.iconst 1, 1) := by decide +kernel
theorem dX7_isLabel_16 : decode cX7_isLabel 16 = .ok (.isub, 1) := by decide +kernel
theorem dX7_isLabel_17 : decode cX7_isLabel 17 = .ok (.invokestatic 54, 3) := by decide +kernel
theorem dX7_isLabel_20 : decode cX7_isLabel 20 = .ok (.ireturn, 1) := by decide +kernel
theorem dX7_place_0 : decode cX7_place 0 = .ok (.aload_n 0, 1) := by decide +kernel
theorem dX7_place_1 : decode cX7_place 1 = .ok (.iload_n 1, 1) := by decide +kernel
theorem dX7_place_2 : decode cX7_place 2 = .ok (.invokevirtual 164, 3) := by decide +kernel
theorem dX7_place_5 : decode cX7_place 5 = .ok (.ifCond .eq 11, 3) := by decide +kernel
theorem dX7_place_8 : decode cX7_place 8 = .ok (.aload_n 0, 1) := by decide +kernel
theorem dX7_place_9 : decode cX7_place 9 = .ok (.iload_n 1, 1) := by decide +kernel
theorem dX7_place_10 : decode cX7_place 10 = .ok (.invokevirtual 167, 3) := by decide +kernel
theorem dX7_place_13 : decode cX7_place 13 = .ok (.goto 9, 3) := by decide +kernel
theorem dX7_place_16 : decode cX7_place 16 = .ok (.aload_n 0, 1) := by decide +kernel
theorem dX7_place_17 : decode cX7_place 17 = .ok (.bipush (-2), 2) := by decide +kernel
theorem dX7_place_19 : decode cX7_place 19 = .ok (.invokevirtual 47, 3) := by decide +kernel
theorem dX7_place_22 : decode cX7_place 22 = .ok (.ireturn, 1) := by decide +kernel
theorem dX7_next_0 : decode cX7_next 0 = .ok (.aload_n 0, 1) := by decide +kernel
theorem dX7_next_1 : decode cX7_next 1 = .ok (.iload_n 1, 1) := by decide +kernel
theorem dX7_next_2 : decode cX7_next 2 = .ok (.iload_n 2, 1) := by decide +kernel
theorem dX7_next_3 : decode cX7_next 3 = .ok (.invokevirtual 64, 3) := by decide +kernel
theorem dX7_next_6 : decode cX7_next 6 = .ok (.ifCond .eq 24, 3) := by decide +kernel
theorem dX7_next_9 : decode cX7_next 9 = .ok (.aload_n 0, 1) := by decide +kernel
theorem dX7_next_10 : decode cX7_next 10 = .ok (.iload_n 3, 1) := by decide +kernel
theorem dX7_next_11 : decode cX7_next 11 = .ok (.iload 4, 2) := by decide +kernel
theorem dX7_next_13 : decode cX7_next 13 = .ok (.invokevirtual 64, 3) := by decide +kernel
theorem dX7_next_16 : decode cX7_next 16 = .ok (.ifCond .eq 14, 3) := by decide +kernel
theorem dX7_next_19 : decode cX7_next 19 = .ok (.iload_n 1, 1) := by decide +kernel
theorem dX7_next_20 : decode cX7_next 20 = .ok (.iload_n 3, 1) := by decide +kernel
theorem dX7_next_21 : decode cX7_next 21 = .ok (.if_icmp .ne 16, 3) := by decide +kernel
theorem dX7_next_24 : decode cX7_next 24 = .ok (.iload_n 2, 1) := by decide +kernel
theorem dX7_next_25 : decode cX7_next 25 = .ok (.iload 4, 2) := by decide +kernel
theorem dX7_next_27 : decode cX7_next 27 = .ok (.if_icmp .ne 10, 3) := by decide +kernel
theorem dX7_next_30 : decode cX7_next 30 = .ok (.aload_n 0, 1) := by decide +kernel
theorem dX7_next_31 : decode cX7_next 31 = .ok (.bipush (-2), 2) := by decide +kernel
theorem dX7_next_33 : decode cX7_next 33 = .ok (.invokevirtual 47, 3) := by decide +kernel
theorem dX7_next_36 : decode cX7_next 36 = .ok (.ireturn, 1) := by decide +kernel
theorem dX7_next_37 : decode cX7_next 37 = .ok (.aload_n 0, 1) := by decide +kernel
theorem dX7_next_38 : decode cX7_next 38 = .ok (.aload_n 0, 1) := by decide +kernel
theorem dX7_next_39 : decode cX7_next 39 = .ok (.aload_n 0, 1) := by decide +kernel
theorem dX7_next_40 : decode cX7_next 40 = .ok (.iload_n 1, 1) := by decide +kernel
theorem dX7_next_41 : decode cX7_next 41 = .ok (.iload_n 2, 1) := by decide +kernel
theorem dX7_next_42 : decode cX7_next 42 = .ok (.invokevirtual 68, 3) := by decide +kernel
theorem dX7_next_45 : decode cX7_next 45 = .ok (.aload_n 0, 1) := by decide +kernel
theorem dX7_next_46 : decode cX7_next 46 = .ok (.iload_n 3, 1) := by decide +kernel
theorem dX7_next_47 : decode cX7_next 47 = .ok (.iload 4, 2) := by decide +kernel
theorem dX7_next_49 : decode cX7_next 49 = .ok (.invokevirtual 68, 3) := by decide +kernel
theorem dX7_next_52 : decode cX7_next 52 = .ok (.invokevirtual 75, 3) := by decide +kernel
theorem dX7_next_55 : decode cX7_next 55 = .ok (.invokevirtual 167, 3) := by decide +kernel
theorem dX7_next_58 : decode cX7_next 58 = .ok (.ireturn, 1) := by decide +kernel
theorem dX7_far_0 : decode cX7_far 0 = .ok (.aload_n 0, 1) := by decide +kernel
theorem dX7_far_1 : decode cX7_far 1 = .ok (.iload_n 1, 1) := by decide +kernel
theorem dX7_far_2 : decode cX7_far 2 = .ok (.iload_n 2, 1) := by decide +kernel
theorem dX7_far_3 : decode cX7_far 3 = .ok (.invokevirtual 64, 3) := by decide +kernel
theorem dX7_far_6 : decode cX7_far 6 = .ok (.ifCond .eq 17, 3) := by decide +kernel
theorem dX7_far_9 : decode cX7_far 9 = .ok (.aload_n 0, 1) := by decide +kernel
theorem dX7_far_10 : decode cX7_far 10 = .ok (.iload_n 3, 1) := by decide +kernel
theorem dX7_far_11 : decode cX7_far 11 = .ok (.iload 4, 2) := by decide +kernel
theorem dX7_far_13 : decode cX7_far 13 = .ok (.invokevirtual 64, 3) := by decide +kernel
theorem dX7_far_16 : decode cX7_far 16 = .ok (.ifCond .eq 7, 3) := by decide +kernel
theorem dX7_far_19 : decode cX7_far 19 = .ok (.iconst 1, 1) := by decide +kernel
theorem dX7_far_20 : decode cX7_far 20 = .ok (.goto 4, 3) := by decide +kernel
theorem dX7_far_23 : decode cX7_far 23 = .ok (.iconst 0, 1) := by decide +kernel
theorem dX7_far_24 : decode cX7_far 24 = .ok (.istore 5, 2) := by decide +kernel
theorem dX7_far_26 : decode cX7_far 26 = .ok (.iload 5, 2) := by decide +kernel
theorem dX7_far_28 : decode cX7_far 28 = .ok (.ifCond .eq 23, 3) := by decide +kernel
theorem dX7_far_31 : decode cX7_far 31 = .ok (.aload_n 0, 1) := by decide +kernel
theorem dX7_far_32 : decode cX7_far 32 = .ok (.aload_n 0, 1) := by decide +kernel
theorem dX7_far_33 : decode cX7_far 33 = .ok (.iload_n 1, 1) := by decide +kernel
theorem dX7_far_34 : decode cX7_far 34 = .ok (.iload_n 2, 1) := by decide +kernel
theorem dX7_far_35 : decode cX7_far 35 = .ok (.invokevirtual 68, 3) := by decide +kernel
theorem dX7_far_38 : decode cX7_far 38 = .ok (.aload_n 0, 1) := by decide +kernel
theorem dX7_far_39 : decode cX7_far 39 = .ok (.iload_n 3, 1) := by decide +kernel
theorem dX7_far_40 : decode cX7_far 40 = .ok (.iload 4, 2) := by decide +kernel
theorem dX7_far_42 : decode cX7_far 42 = .ok (.invokevirtual 68, 3) := by decide +kernel
theorem dX7_far_45 : decode cX7_far 45 = .ok (.invokevirtual 170, 3) := by decide +kernel
theorem dX7_far_48 : decode cX7_far 48 = .ok (.goto 9, 3) := by decide +kernel
theorem dX7_far_51 : decode cX7_far 51 = .ok (.aload_n 0, 1) := by decide +kernel
theorem dX7_far_52 : decode cX7_far 52 = .ok (.bipush (-2), 2) := by decide +kernel
theorem dX7_far_54 : decode cX7_far 54 = .ok (.invokevirtual 47, 3) := by decide +kernel
theorem dX7_far_57 : decode cX7_far 57 = .ok (.ireturn, 1) := by decide +kernel
theorem dX7_holds_0 : decode cX7_holds 0 = .ok (.aload_n 0, 1) := by decide +kernel
theorem dX7_holds_1 : decode cX7_holds 1 = .ok (.iload_n 1, 1) := by decide +kernel
theorem dX7_holds_2 : decode cX7_holds 2 = .ok (.iload_n 2, 1) := by decide +kernel
theorem dX7_holds_3 : decode cX7_holds 3 = .ok (.iload_n 3, 1) := by decide +kernel
theorem dX7_holds_4 : decode cX7_holds 4 = .ok (.invokevirtual 126, 3) := by decide +kernel
theorem dX7_holds_7 : decode cX7_holds 7 = .ok (.ifCond .ne 10, 3) := by decide +kernel
theorem dX7_holds_10 : decode cX7_holds 10 = .ok (.aload_n 0, 1) := by decide +kernel
theorem dX7_holds_11 : decode cX7_holds 11 = .ok (.bipush (-2), 2) := by decide +kernel
theorem dX7_holds_13 : decode cX7_holds 13 = .ok (.invokevirtual 47, 3) := by decide +kernel
theorem dX7_holds_16 : decode cX7_holds 16 = .ok (.ireturn, 1) := by decide +kernel
theorem dX7_holds_17 : decode cX7_holds 17 = .ok (.aload_n 0, 1) := by decide +kernel
theorem dX7_holds_18 : decode cX7_holds 18 = .ok (.invokevirtual 129, 3) := by decide +kernel
theorem dX7_holds_21 : decode cX7_holds 21 = .ok (.aload_n 0, 1) := by decide +kernel
theorem dX7_holds_22 : decode cX7_holds 22 = .ok (.iload_n 1, 1) := by decide +kernel
theorem dX7_holds_23 : decode cX7_holds 23 = .ok (.iload_n 2, 1) := by decide +kernel
theorem dX7_holds_24 : decode cX7_holds 24 = .ok (.invokevirtual 68, 3) := by decide +kernel
theorem dX7_holds_27 : decode cX7_holds 27 = .ok (.istore 4, 2) := by decide +kernel
theorem dX7_holds_29 : decode cX7_holds 29 = .ok (.aload_n 0, 1) := by decide +kernel
theorem dX7_holds_30 : decode cX7_holds 30 = .ok (.iload 4, 2) := by decide +kernel
theorem dX7_holds_32 : decode cX7_holds 32 = .ok (.aload_n 0, 1) := by decide +kernel
theorem dX7_holds_33 : decode cX7_holds 33 = .ok (.iload 4, 2) := by decide +kernel
theorem dX7_holds_35 : decode cX7_holds 35 = .ok (.iload_n 3, 1) := by decide +kernel
theorem dX7_holds_36 : decode cX7_holds 36 = .ok (.invokevirtual 72, 3) := by decide +kernel
theorem dX7_holds_39 : decode cX7_holds 39 = .ok (.invokevirtual 106, 3) := by decide +kernel
theorem dX7_holds_42 : decode cX7_holds 42 = .ok (.ireturn, 1) := by decide +kernel
theorem dX7_arrived_0 : decode cX7_arrived 0 = .ok (.iconst 0, 1) := by decide +kernel
theorem dX7_arrived_1 : decode cX7_arrived 1 = .ok (.istore_n 2, 1) := by decide +kernel
theorem dX7_arrived_2 : decode cX7_arrived 2 = .ok (.iconst 0, 1) := by decide +kernel
theorem dX7_arrived_3 : decode cX7_arrived 3 = .ok (.istore_n 3, 1) := by decide +kernel
theorem dX7_arrived_4 : decode cX7_arrived 4 = .ok (.iload_n 3, 1) := by decide +kernel
theorem dX7_arrived_5 : decode cX7_arrived 5 = .ok (.aload_n 0, 1) := by decide +kernel
theorem dX7_arrived_6 : decode cX7_arrived 6 = .ok (.getfield 31, 3) := by decide +kernel
theorem dX7_arrived_9 : decode cX7_arrived 9 = .ok (.iload_n 1, 1) := by decide +kernel
theorem dX7_arrived_10 : decode cX7_arrived 10 = .ok (.iaload, 1) := by decide +kernel
theorem dX7_arrived_11 : decode cX7_arrived 11 = .ok (.if_icmp .ge 36, 3) := by decide +kernel
theorem dX7_arrived_14 : decode cX7_arrived 14 = .ok (.iload_n 2, 1) := by decide +kernel
theorem dX7_arrived_15 : decode cX7_arrived 15 = .ok (.aload_n 0, 1) := by decide +kernel
theorem dX7_arrived_16 : decode cX7_arrived 16 = .ok (.getfield 34, 3) := by decide +kernel
theorem dX7_arrived_19 : decode cX7_arrived 19 = .ok (.bipush 36, 2) := by decide +kernel
theorem dX7_arrived_21 : decode cX7_arrived 21 = .ok (.iload_n 1, 1) := by decide +kernel
theorem dX7_arrived_22 : decode cX7_arrived 22 = .ok (.imul, 1) := by decide +kernel
theorem dX7_arrived_23 : decode cX7_arrived 23 = .ok (.iload_n 3, 1) := by decide +kernel
theorem dX7_arrived_24 : decode cX7_arrived 24 = .ok (.iadd, 1) := by decide +kernel
theorem dX7_arrived_25 : decode cX7_arrived 25 = .ok (.iaload, 1) := by decide +kernel
theorem dX7_arrived_26 : decode cX7_arrived 26 = .ok (.aload_n 0, 1) := by decide +kernel
theorem dX7_arrived_27 : decode cX7_arrived 27 = .ok (.iload_n 1, 1) := by decide +kernel
theorem dX7_arrived_28 : decode cX7_arrived 28 = .ok (.invokevirtual 88, 3) := by decide +kernel
theorem dX7_arrived_31 : decode cX7_arrived 31 = .ok (.if_icmp .gt 7, 3) := by decide +kernel
theorem dX7_arrived_34 : decode cX7_arrived 34 = .ok (.iconst 1, 1) := by decide +kernel
theorem dX7_arrived_35 : decode cX7_arrived 35 = .ok (.goto 4, 3) := by decide +kernel
theorem dX7_arrived_38 : decode cX7_arrived 38 = .ok (.iconst 0, 1) := by decide +kernel
theorem dX7_arrived_39 : decode cX7_arrived 39 = .ok (.iadd, 1) := by decide +kernel
theorem dX7_arrived_40 : decode cX7_arrived 40 = .ok (.istore_n 2, 1) := by decide +kernel
theorem dX7_arrived_41 : decode cX7_arrived 41 = .ok (.iinc 3 1, 3) := by decide +kernel
theorem dX7_arrived_44 : decode cX7_arrived 44 = .ok (.goto (-40), 3) := by decide +kernel
theorem dX7_arrived_47 : decode cX7_arrived 47 = .ok (.iload_n 2, 1) := by decide +kernel
theorem dX7_arrived_48 : decode cX7_arrived 48 = .ok (.ireturn, 1) := by decide +kernel
theorem dX7_downOf_0 : decode cX7_downOf 0 = .ok (.iconst 0, 1) := by decide +kernel
theorem dX7_downOf_1 : decode cX7_downOf 1 = .ok (.istore_n 2, 1) := by decide +kernel
theorem dX7_downOf_2 : decode cX7_downOf 2 = .ok (.iconst 0, 1) := by decide +kernel
theorem dX7_downOf_3 : decode cX7_downOf 3 = .ok (.istore_n 3, 1) := by decide +kernel
theorem dX7_downOf_4 : decode cX7_downOf 4 = .ok (.iload_n 3, 1) := by decide +kernel
theorem dX7_downOf_5 : decode cX7_downOf 5 = .ok (.aload_n 0, 1) := by decide +kernel
theorem dX7_downOf_6 : decode cX7_downOf 6 = .ok (.getfield 28, 3) := by decide +kernel
theorem dX7_downOf_9 : decode cX7_downOf 9 = .ok (.iload_n 1, 1) := by decide +kernel
theorem dX7_downOf_10 : decode cX7_downOf 10 = .ok (.iaload, 1) := by decide +kernel
theorem dX7_downOf_11 : decode cX7_downOf 11 = .ok (.if_icmp .ge 58, 3) := by decide +kernel
theorem dX7_downOf_14 : decode cX7_downOf 14 = .ok (.aload_n 0, 1) := by decide +kernel
theorem dX7_downOf_15 : decode cX7_downOf 15 = .ok (.getfield 25, 3) := by decide +kernel
theorem dX7_downOf_18 : decode cX7_downOf 18 = .ok (.bipush 37, 2) := by decide +kernel
theorem dX7_downOf_20 : decode cX7_downOf 20 = .ok (.iload_n 1, 1) := by decide +kernel
theorem dX7_downOf_21 : decode cX7_downOf 21 = .ok (.imul, 1) := by decide +kernel
theorem dX7_downOf_22 : decode cX7_downOf 22 = .ok (.iload_n 3, 1) := by decide +kernel
theorem dX7_downOf_23 : decode cX7_downOf 23 = .ok (.iadd, 1) := by decide +kernel
theorem dX7_downOf_24 : decode cX7_downOf 24 = .ok (.iaload, 1) := by decide +kernel
theorem dX7_downOf_25 : decode cX7_downOf 25 = .ok (.istore 4, 2) := by decide +kernel
theorem dX7_downOf_27 : decode cX7_downOf 27 = .ok (.iload_n 2, 1) := by decide +kernel
theorem dX7_downOf_28 : decode cX7_downOf 28 = .ok (.aload_n 0, 1) := by decide +kernel
theorem dX7_downOf_29 : decode cX7_downOf 29 = .ok (.iload 4, 2) := by decide +kernel
theorem dX7_downOf_31 : decode cX7_downOf 31 = .ok (.aload_n 0, 1) := by decide +kernel
theorem dX7_downOf_32 : decode cX7_downOf 32 = .ok (.iload 4, 2) := by decide +kernel
theorem dX7_downOf_34 : decode cX7_downOf 34 = .ok (.aload_n 0, 1) := by decide +kernel
theorem dX7_downOf_35 : decode cX7_downOf 35 = .ok (.getfield 25, 3) := by decide +kernel
theorem dX7_downOf_38 : decode cX7_downOf 38 = .ok (.bipush 37, 2) := by decide +kernel
theorem dX7_downOf_40 : decode cX7_downOf 40 = .ok (.iload_n 1, 1) := by decide +kernel
theorem dX7_downOf_41 : decode cX7_downOf 41 = .ok (.imul, 1) := by decide +kernel
theorem dX7_downOf_42 : decode cX7_downOf 42 = .ok (.iload_n 3, 1) := by decide +kernel
theorem dX7_downOf_43 : decode cX7_downOf 43 = .ok (.iadd, 1) := by decide +kernel
theorem dX7_downOf_44 : decode cX7_downOf 44 = .ok (.iconst 1, 1) := by decide +kernel
theorem dX7_downOf_45 : decode cX7_downOf 45 = .ok (.iadd, 1) := by decide +kernel
theorem dX7_downOf_46 : decode cX7_downOf 46 = .ok (.iaload, 1) := by decide +kernel
theorem dX7_downOf_47 : decode cX7_downOf 47 = .ok (.invokevirtual 100, 3) := by decide +kernel
theorem dX7_downOf_50 : decode cX7_downOf 50 = .ok (.invokevirtual 103, 3) := by decide +kernel
theorem dX7_downOf_53 : decode cX7_downOf 53 = .ok (.ifCond .eq 7, 3) := by decide +kernel
theorem dX7_downOf_56 : decode cX7_downOf 56 = .ok (.iconst 1, 1) := by decide +kernel
theorem dX7_downOf_57 : decode cX7_downOf 57 = .ok (.goto 4, 3) := by decide +kernel
theorem dX7_downOf_60 : decode cX7_downOf 60 = .ok (.iconst 0, 1) := by decide +kernel
theorem dX7_downOf_61 : decode cX7_downOf 61 = .ok (.iadd, 1) := by decide +kernel
theorem dX7_downOf_62 : decode cX7_downOf 62 = .ok (.istore_n 2, 1) := by decide +kernel
theorem dX7_downOf_63 : decode cX7_downOf 63 = .ok (.iinc 3 1, 3) := by decide +kernel
theorem dX7_downOf_66 : decode cX7_downOf 66 = .ok (.goto (-62), 3) := by decide +kernel
theorem dX7_downOf_69 : decode cX7_downOf 69 = .ok (.iload_n 2, 1) := by decide +kernel
theorem dX7_downOf_70 : decode cX7_downOf 70 = .ok (.ireturn, 1) := by decide +kernel
theorem dX7_wormTold_0 : decode cX7_wormTold 0 = .ok (.iload_n 2, 1) := by decide +kernel
theorem dX7_wormTold_1 : decode cX7_wormTold 1 = .ok (.tableswitch 127 0 7 #[47, 54, 61, 67, 87, 93, 107, 121], 47) := by decide +kernel
theorem dX7_wormTold_48 : decode cX7_wormTold 48 = .ok (.aload_n 0, 1) := by decide +kernel
theorem dX7_wormTold_49 : decode cX7_wormTold 49 = .ok (.getfield 31, 3) := by decide +kernel
theorem dX7_wormTold_52 : decode cX7_wormTold 52 = .ok (.iload_n 1, 1) := by decide +kernel
theorem dX7_wormTold_53 : decode cX7_wormTold 53 = .ok (.iaload, 1) := by decide +kernel
theorem dX7_wormTold_54 : decode cX7_wormTold 54 = .ok (.ireturn, 1) := by decide +kernel
theorem dX7_wormTold_55 : decode cX7_wormTold 55 = .ok (.aload_n 0, 1) := by decide +kernel
theorem dX7_wormTold_56 : decode cX7_wormTold 56 = .ok (.getfield 28, 3) := by decide +kernel
theorem dX7_wormTold_59 : decode cX7_wormTold 59 = .ok (.iload_n 1, 1) := by decide +kernel
theorem dX7_wormTold_60 : decode cX7_wormTold 60 = .ok (.iaload, 1) := by decide +kernel
theorem dX7_wormTold_61 : decode cX7_wormTold 61 = .ok (.ireturn, 1) := by decide +kernel
theorem dX7_wormTold_62 : decode cX7_wormTold 62 = .ok (.aload_n 0, 1) := by decide +kernel
theorem dX7_wormTold_63 : decode cX7_wormTold 63 = .ok (.iload_n 1, 1) := by decide +kernel
theorem dX7_wormTold_64 : decode cX7_wormTold 64 = .ok (.invokevirtual 88, 3) := by decide +kernel
theorem dX7_wormTold_67 : decode cX7_wormTold 67 = .ok (.ireturn, 1) := by decide +kernel
theorem dX7_wormTold_68 : decode cX7_wormTold 68 = .ok (.aload_n 0, 1) := by decide +kernel
theorem dX7_wormTold_69 : decode cX7_wormTold 69 = .ok (.aload_n 0, 1) := by decide +kernel
theorem dX7_wormTold_70 : decode cX7_wormTold 70 = .ok (.getfield 25, 3) := by decide +kernel
theorem dX7_wormTold_73 : decode cX7_wormTold 73 = .ok (.bipush 37, 2) := by decide +kernel
theorem dX7_wormTold_75 : decode cX7_wormTold 75 = .ok (.iload_n 1, 1) := by decide +kernel
theorem dX7_wormTold_76 : decode cX7_wormTold 76 = .ok (.imul, 1) := by decide +kernel
theorem dX7_wormTold_77 : decode cX7_wormTold 77 = .ok (.aload_n 0, 1) := by decide +kernel
theorem dX7_wormTold_78 : decode cX7_wormTold 78 = .ok (.iload_n 1, 1) := by decide +kernel
theorem dX7_wormTold_79 : decode cX7_wormTold 79 = .ok (.invokevirtual 94, 3) := by decide +kernel
theorem dX7_wormTold_82 : decode cX7_wormTold 82 = .ok (.iadd, 1) := by decide +kernel
theorem dX7_wormTold_83 : decode cX7_wormTold 83 = .ok (.iaload, 1) := by decide +kernel
theorem dX7_wormTold_84 : decode cX7_wormTold 84 = .ok (.invokevirtual 167, 3) := by decide +kernel
theorem dX7_wormTold_87 : decode cX7_wormTold 87 = .ok (.ireturn, 1) := by decide +kernel
theorem dX7_wormTold_88 : decode cX7_wormTold 88 = .ok (.aload_n 0, 1) := by decide +kernel
theorem dX7_wormTold_89 : decode cX7_wormTold 89 = .ok (.iload_n 1, 1) := by decide +kernel
theorem dX7_wormTold_90 : decode cX7_wormTold 90 = .ok (.invokevirtual 173, 3) := by decide +kernel
theorem dX7_wormTold_93 : decode cX7_wormTold 93 = .ok (.ireturn, 1) := by decide +kernel
theorem dX7_wormTold_94 : decode cX7_wormTold 94 = .ok (.aload_n 0, 1) := by decide +kernel
theorem dX7_wormTold_95 : decode cX7_wormTold 95 = .ok (.iload_n 1, 1) := by decide +kernel
theorem dX7_wormTold_96 : decode cX7_wormTold 96 = .ok (.iconst 2, 1) := by decide +kernel
theorem dX7_wormTold_97 : decode cX7_wormTold 97 = .ok (.idiv, 1) := by decide +kernel
theorem dX7_wormTold_98 : decode cX7_wormTold 98 = .ok (.bipush 6, 2) := by decide +kernel
theorem dX7_wormTold_100 : decode cX7_wormTold 100 = .ok (.iload_n 1, 1) := by decide +kernel
theorem dX7_wormTold_101 : decode cX7_wormTold 101 = .ok (.iconst 2, 1) := by decide +kernel
theorem dX7_wormTold_102 : decode cX7_wormTold 102 = .ok (.irem, 1) := by decide +kernel
theorem dX7_wormTold_103 : decode cX7_wormTold 103 = .ok (.iadd, 1) := by decide +kernel
theorem dX7_wormTold_104 : decode cX7_wormTold 104 = .ok (.invokevirtual 78, 3) := by decide +kernel
theorem dX7_wormTold_107 : decode cX7_wormTold 107 = .ok (.ireturn, 1) := by decide +kernel
theorem dX7_wormTold_108 : decode cX7_wormTold 108 = .ok (.aload_n 0, 1) := by decide +kernel
theorem dX7_wormTold_109 : decode cX7_wormTold 109 = .ok (.iload_n 1, 1) := by decide +kernel
theorem dX7_wormTold_110 : decode cX7_wormTold 110 = .ok (.invokevirtual 112, 3) := by decide +kernel
theorem dX7_wormTold_113 : decode cX7_wormTold 113 = .ok (.ifCond .eq 7, 3) := by decide +kernel
theorem dX7_wormTold_116 : decode cX7_wormTold 116 = .ok (.iconst 1, 1) := by decide +kernel
theorem dX7_wormTold_117 : decode cX7_wormTold 117 = .ok (.goto 4, 3) := by decide +kernel
theorem dX7_wormTold_120 : decode cX7_wormTold 120 = .ok (.iconst 0, 1) := by decide +kernel
theorem dX7_wormTold_121 : decode cX7_wormTold 121 = .ok (.ireturn, 1) := by decide +kernel
theorem dX7_wormTold_122 : decode cX7_wormTold 122 = .ok (.aload_n 0, 1) := by decide +kernel
theorem dX7_wormTold_123 : decode cX7_wormTold 123 = .ok (.iload_n 1, 1) := by decide +kernel
theorem dX7_wormTold_124 : decode cX7_wormTold 124 = .ok (.invokevirtual 176, 3) := by decide +kernel
theorem dX7_wormTold_127 : decode cX7_wormTold 127 = .ok (.ireturn, 1) := by decide +kernel
theorem dX7_wormTold_128 : decode cX7_wormTold 128 = .ok (.aload_n 0, 1) := by decide +kernel
theorem dX7_wormTold_129 : decode cX7_wormTold 129 = .ok (.iload_n 1, 1) := by decide +kernel
theorem dX7_wormTold_130 : decode cX7_wormTold 130 = .ok (.invokevirtual 179, 3) := by decide +kernel
theorem dX7_wormTold_133 : decode cX7_wormTold 133 = .ok (.ireturn, 1) := by decide +kernel
theorem dX7_heldMany_0 : decode cX7_heldMany 0 = .ok (.aload_n 0, 1) := by decide +kernel
theorem dX7_heldMany_1 : decode cX7_heldMany 1 = .ok (.iload_n 1, 1) := by decide +kernel
theorem dX7_heldMany_2 : decode cX7_heldMany 2 = .ok (.invokevirtual 94, 3) := by decide +kernel
theorem dX7_heldMany_5 : decode cX7_heldMany 5 = .ok (.aload_n 0, 1) := by decide +kernel
theorem dX7_heldMany_6 : decode cX7_heldMany 6 = .ok (.iload_n 1, 1) := by decide +kernel
theorem dX7_heldMany_7 : decode cX7_heldMany 7 = .ok (.invokevirtual 91, 3) := by decide +kernel
theorem dX7_heldMany_10 : decode cX7_heldMany 10 = .ok (.isub, 1) := by decide +kernel
theorem dX7_heldMany_11 : decode cX7_heldMany 11 = .ok (.istore_n 2, 1) := by decide +kernel
theorem dX7_heldMany_12 : decode cX7_heldMany 12 = .ok (.iload_n 2, 1) := by decide +kernel
theorem dX7_heldMany_13 : decode cX7_heldMany 13 = .ok (.ifCond .ge 7, 3) := by decide +kernel
theorem dX7_heldMany_16 : decode cX7_heldMany 16 = .ok (.iconst 0, 1) := by decide +kernel
theorem dX7_heldMany_17 : decode cX7_heldMany 17 = .ok (.goto 4, 3) := by decide +kernel
theorem dX7_heldMany_20 : decode cX7_heldMany 20 = .ok (.iload_n 2, 1) := by decide +kernel
theorem dX7_heldMany_21 : decode cX7_heldMany 21 = .ok (.ireturn, 1) := by decide +kernel
theorem dX7_isWorm_0 : decode cX7_isWorm 0 = .ok (.aload_n 0, 1) := by decide +kernel
theorem dX7_isWorm_1 : decode cX7_isWorm 1 = .ok (.iload_n 1, 1) := by decide +kernel
theorem dX7_isWorm_2 : decode cX7_isWorm 2 = .ok (.invokevirtual 120, 3) := by decide +kernel
theorem dX7_isWorm_5 : decode cX7_isWorm 5 = .ok (.ifCond .eq 16, 3) := by decide +kernel
theorem dX7_isWorm_8 : decode cX7_isWorm 8 = .ok (.iload_n 2, 1) := by decide +kernel
theorem dX7_isWorm_9 : decode cX7_isWorm 9 = .ok (.iconst 0, 1) := by decide +kernel
theorem dX7_isWorm_10 : decode cX7_isWorm 10 = .ok (.iconst 1, 1) := by decide +kernel
theorem dX7_isWorm_11 : decode cX7_isWorm 11 = .ok (.invokestatic 54, 3) := by decide +kernel
theorem dX7_isWorm_14 : decode cX7_isWorm 14 = .ok (.ifCond .eq 7, 3) := by decide +kernel
theorem dX7_isWorm_17 : decode cX7_isWorm 17 = .ok (.iconst 1, 1) := by decide +kernel
theorem dX7_isWorm_18 : decode cX7_isWorm 18 = .ok (.goto 4, 3) := by decide +kernel
theorem dX7_isWorm_21 : decode cX7_isWorm 21 = .ok (.iconst 0, 1) := by decide +kernel
theorem dX7_isWorm_22 : decode cX7_isWorm 22 = .ok (.ireturn, 1) := by decide +kernel
theorem dX7_worm_0 : decode cX7_worm 0 = .ok (.aload_n 0, 1) := by decide +kernel
theorem dX7_worm_1 : decode cX7_worm 1 = .ok (.iload_n 1, 1) := by decide +kernel
theorem dX7_worm_2 : decode cX7_worm 2 = .ok (.iload_n 2, 1) := by decide +kernel
theorem dX7_worm_3 : decode cX7_worm 3 = .ok (.invokevirtual 182, 3) := by decide +kernel
theorem dX7_worm_6 : decode cX7_worm 6 = .ok (.ifCond .eq 13, 3) := by decide +kernel
theorem dX7_worm_9 : decode cX7_worm 9 = .ok (.iload_n 3, 1) := by decide +kernel
theorem dX7_worm_10 : decode cX7_worm 10 = .ok (.iconst 0, 1) := by decide +kernel
theorem dX7_worm_11 : decode cX7_worm 11 = .ok (.bipush 8, 2) := by decide +kernel
theorem dX7_worm_13 : decode cX7_worm 13 = .ok (.invokestatic 54, 3) := by decide +kernel
theorem dX7_worm_16 : decode cX7_worm 16 = .ok (.ifCond .ne 10, 3) := by decide +kernel
theorem dX7_worm_19 : decode cX7_worm 19 = .ok (.aload_n 0, 1) := by decide +kernel
theorem dX7_worm_20 : decode cX7_worm 20 = .ok (.bipush (-2), 2) := by decide +kernel
theorem dX7_worm_22 : decode cX7_worm 22 = .ok (.invokevirtual 47, 3) := by decide +kernel
theorem dX7_worm_25 : decode cX7_worm 25 = .ok (.ireturn, 1) := by decide +kernel
theorem dX7_worm_26 : decode cX7_worm 26 = .ok (.aload_n 0, 1) := by decide +kernel
theorem dX7_worm_27 : decode cX7_worm 27 = .ok (.invokevirtual 129, 3) := by decide +kernel
theorem dX7_worm_30 : decode cX7_worm 30 = .ok (.aload_n 0, 1) := by decide +kernel
theorem dX7_worm_31 : decode cX7_worm 31 = .ok (.iconst 2, 1) := by decide +kernel
theorem dX7_worm_32 : decode cX7_worm 32 = .ok (.iload_n 1, 1) := by decide +kernel
theorem dX7_worm_33 : decode cX7_worm 33 = .ok (.imul, 1) := by decide +kernel
theorem dX7_worm_34 : decode cX7_worm 34 = .ok (.iload_n 2, 1) := by decide +kernel
theorem dX7_worm_35 : decode cX7_worm 35 = .ok (.iadd, 1) := by decide +kernel
theorem dX7_worm_36 : decode cX7_worm 36 = .ok (.iload_n 3, 1) := by decide +kernel
theorem dX7_worm_37 : decode cX7_worm 37 = .ok (.invokevirtual 185, 3) := by decide +kernel
theorem dX7_worm_40 : decode cX7_worm 40 = .ok (.ireturn, 1) := by decide +kernel
theorem dX7_way_0 : decode cX7_way 0 = .ok (.aload_n 0, 1) := by decide +kernel
theorem dX7_way_1 : decode cX7_way 1 = .ok (.iload_n 1, 1) := by decide +kernel
theorem dX7_way_2 : decode cX7_way 2 = .ok (.iload_n 2, 1) := by decide +kernel
theorem dX7_way_3 : decode cX7_way 3 = .ok (.invokevirtual 182, 3) := by decide +kernel
theorem dX7_way_6 : decode cX7_way 6 = .ok (.ifCond .eq 7, 3) := by decide +kernel
theorem dX7_way_9 : decode cX7_way 9 = .ok (.iload_n 3, 1) := by decide +kernel
theorem dX7_way_10 : decode cX7_way 10 = .ok (.ifCond .ge 10, 3) := by decide +kernel
theorem dX7_way_13 : decode cX7_way 13 = .ok (.aload_n 0, 1) := by decide +kernel
theorem dX7_way_14 : decode cX7_way 14 = .ok (.bipush (-2), 2) := by decide +kernel
theorem dX7_way_16 : decode cX7_way 16 = .ok (.invokevirtual 47, 3) := by decide +kernel
theorem dX7_way_19 : decode cX7_way 19 = .ok (.ireturn, 1) := by decide +kernel
theorem dX7_way_20 : decode cX7_way 20 = .ok (.aload_n 0, 1) := by decide +kernel
theorem dX7_way_21 : decode cX7_way 21 = .ok (.invokevirtual 129, 3) := by decide +kernel
theorem dX7_way_24 : decode cX7_way 24 = .ok (.iconst 2, 1) := by decide +kernel
theorem dX7_way_25 : decode cX7_way 25 = .ok (.iload_n 1, 1) := by decide +kernel
theorem dX7_way_26 : decode cX7_way 26 = .ok (.imul, 1) := by decide +kernel
theorem dX7_way_27 : decode cX7_way 27 = .ok (.iload_n 2, 1) := by decide +kernel
theorem dX7_way_28 : decode cX7_way 28 = .ok (.iadd, 1) := by decide +kernel
theorem dX7_way_29 : decode cX7_way 29 = .ok (.istore 4, 2) := by decide +kernel
theorem dX7_way_31 : decode cX7_way 31 = .ok (.iload_n 3, 1) := by decide +kernel
theorem dX7_way_32 : decode cX7_way 32 = .ok (.aload_n 0, 1) := by decide +kernel
theorem dX7_way_33 : decode cX7_way 33 = .ok (.getfield 28, 3) := by decide +kernel
theorem dX7_way_36 : decode cX7_way 36 = .ok (.iload 4, 2) := by decide +kernel
theorem dX7_way_38 : decode cX7_way 38 = .ok (.iaload, 1) := by decide +kernel
theorem dX7_way_39 : decode cX7_way 39 = .ok (.if_icmp .le 7, 3) := by decide +kernel
theorem dX7_way_42 : decode cX7_way 42 = .ok (.iconst (-1), 1) := by decide +kernel
theorem dX7_way_43 : decode cX7_way 43 = .ok (.goto 19, 3) := by decide +kernel
theorem dX7_way_46 : decode cX7_way 46 = .ok (.aload_n 0, 1) := by decide +kernel
theorem dX7_way_47 : decode cX7_way 47 = .ok (.aload_n 0, 1) := by decide +kernel
theorem dX7_way_48 : decode cX7_way 48 = .ok (.getfield 25, 3) := by decide +kernel
theorem dX7_way_51 : decode cX7_way 51 = .ok (.bipush 37, 2) := by decide +kernel
theorem dX7_way_53 : decode cX7_way 53 = .ok (.iload 4, 2) := by decide +kernel
theorem dX7_way_55 : decode cX7_way 55 = .ok (.imul, 1) := by decide +kernel
theorem dX7_way_56 : decode cX7_way 56 = .ok (.iload_n 3, 1) := by decide +kernel
theorem dX7_way_57 : decode cX7_way 57 = .ok (.iadd, 1) := by decide +kernel
theorem dX7_way_58 : decode cX7_way 58 = .ok (.iaload, 1) := by decide +kernel
theorem dX7_way_59 : decode cX7_way 59 = .ok (.invokevirtual 167, 3) := by decide +kernel
theorem dX7_way_62 : decode cX7_way 62 = .ok (.ireturn, 1) := by decide +kernel
theorem dX7_goalAt_0 : decode cX7_goalAt 0 = .ok (.aload_n 0, 1) := by decide +kernel
theorem dX7_goalAt_1 : decode cX7_goalAt 1 = .ok (.iload_n 1, 1) := by decide +kernel
theorem dX7_goalAt_2 : decode cX7_goalAt 2 = .ok (.iload_n 2, 1) := by decide +kernel
theorem dX7_goalAt_3 : decode cX7_goalAt 3 = .ok (.invokevirtual 182, 3) := by decide +kernel
theorem dX7_goalAt_6 : decode cX7_goalAt 6 = .ok (.ifCond .eq 7, 3) := by decide +kernel
theorem dX7_goalAt_9 : decode cX7_goalAt 9 = .ok (.iload_n 3, 1) := by decide +kernel
theorem dX7_goalAt_10 : decode cX7_goalAt 10 = .ok (.ifCond .ge 10, 3) := by decide +kernel
theorem dX7_goalAt_13 : decode cX7_goalAt 13 = .ok (.aload_n 0, 1) := by decide +kernel
theorem dX7_goalAt_14 : decode cX7_goalAt 14 = .ok (.bipush (-2), 2) := by decide +kernel
theorem dX7_goalAt_16 : decode cX7_goalAt 16 = .ok (.invokevirtual 47, 3) := by decide +kernel
theorem dX7_goalAt_19 : decode cX7_goalAt 19 = .ok (.ireturn, 1) := by decide +kernel
theorem dX7_goalAt_20 : decode cX7_goalAt 20 = .ok (.aload_n 0, 1) := by decide +kernel
theorem dX7_goalAt_21 : decode cX7_goalAt 21 = .ok (.invokevirtual 129, 3) := by decide +kernel
theorem dX7_goalAt_24 : decode cX7_goalAt 24 = .ok (.iconst 2, 1) := by decide +kernel
theorem dX7_goalAt_25 : decode cX7_goalAt 25 = .ok (.iload_n 1, 1) := by decide +kernel
theorem dX7_goalAt_26 : decode cX7_goalAt 26 = .ok (.imul, 1) := by decide +kernel
theorem dX7_goalAt_27 : decode cX7_goalAt 27 = .ok (.iload_n 2, 1) := by decide +kernel
theorem dX7_goalAt_28 : decode cX7_goalAt 28 = .ok (.iadd, 1) := by decide +kernel
theorem dX7_goalAt_29 : decode cX7_goalAt 29 = .ok (.istore 4, 2) := by decide +kernel
theorem dX7_goalAt_31 : decode cX7_goalAt 31 = .ok (.iload_n 3, 1) := by decide +kernel
theorem dX7_goalAt_32 : decode cX7_goalAt 32 = .ok (.aload_n 0, 1) := by decide +kernel
theorem dX7_goalAt_33 : decode cX7_goalAt 33 = .ok (.getfield 31, 3) := by decide +kernel
theorem dX7_goalAt_36 : decode cX7_goalAt 36 = .ok (.iload 4, 2) := by decide +kernel
theorem dX7_goalAt_38 : decode cX7_goalAt 38 = .ok (.iaload, 1) := by decide +kernel
theorem dX7_goalAt_39 : decode cX7_goalAt 39 = .ok (.if_icmp .lt 7, 3) := by decide +kernel
theorem dX7_goalAt_42 : decode cX7_goalAt 42 = .ok (.iconst (-1), 1) := by decide +kernel
theorem dX7_goalAt_43 : decode cX7_goalAt 43 = .ok (.goto 30, 3) := by decide +kernel
theorem dX7_goalAt_46 : decode cX7_goalAt 46 = .ok (.aload_n 0, 1) := by decide +kernel
theorem dX7_goalAt_47 : decode cX7_goalAt 47 = .ok (.aload_n 0, 1) := by decide +kernel
theorem dX7_goalAt_48 : decode cX7_goalAt 48 = .ok (.getfield 25, 3) := by decide +kernel
theorem dX7_goalAt_51 : decode cX7_goalAt 51 = .ok (.bipush 37, 2) := by decide +kernel
theorem dX7_goalAt_53 : decode cX7_goalAt 53 = .ok (.iload 4, 2) := by decide +kernel
theorem dX7_goalAt_55 : decode cX7_goalAt 55 = .ok (.imul, 1) := by decide +kernel
theorem dX7_goalAt_56 : decode cX7_goalAt 56 = .ok (.aload_n 0, 1) := by decide +kernel
theorem dX7_goalAt_57 : decode cX7_goalAt 57 = .ok (.getfield 34, 3) := by decide +kernel
theorem dX7_goalAt_60 : decode cX7_goalAt 60 = .ok (.bipush 36, 2) := by decide +kernel
theorem dX7_goalAt_62 : decode cX7_goalAt 62 = .ok (.iload 4, 2) := by decide +kernel
theorem dX7_goalAt_64 : decode cX7_goalAt 64 = .ok (.imul, 1) := by decide +kernel
theorem dX7_goalAt_65 : decode cX7_goalAt 65 = .ok (.iload_n 3, 1) := by decide +kernel
theorem dX7_goalAt_66 : decode cX7_goalAt 66 = .ok (.iadd, 1) := by decide +kernel
theorem dX7_goalAt_67 : decode cX7_goalAt 67 = .ok (.iaload, 1) := by decide +kernel
theorem dX7_goalAt_68 : decode cX7_goalAt 68 = .ok (.iadd, 1) := by decide +kernel
theorem dX7_goalAt_69 : decode cX7_goalAt 69 = .ok (.iaload, 1) := by decide +kernel
theorem dX7_goalAt_70 : decode cX7_goalAt 70 = .ok (.invokevirtual 167, 3) := by decide +kernel
theorem dX7_goalAt_73 : decode cX7_goalAt 73 = .ok (.ireturn, 1) := by decide +kernel
theorem dX7_messageTold_0 : decode cX7_messageTold 0 = .ok (.aload_n 0, 1) := by decide +kernel
theorem dX7_messageTold_1 : decode cX7_messageTold 1 = .ok (.iload_n 1, 1) := by decide +kernel
theorem dX7_messageTold_2 : decode cX7_messageTold 2 = .ok (.iconst 0, 1) := by decide +kernel
theorem dX7_messageTold_3 : decode cX7_messageTold 3 = .ok (.invokevirtual 78, 3) := by decide +kernel
theorem dX7_messageTold_6 : decode cX7_messageTold 6 = .ok (.istore_n 3, 1) := by decide +kernel
theorem dX7_messageTold_7 : decode cX7_messageTold 7 = .ok (.iload_n 2, 1) := by decide +kernel
theorem dX7_messageTold_8 : decode cX7_messageTold 8 = .ok (.tableswitch 81 0 4 #[36, 42, 48, 55, 61], 36) := by decide +kernel
theorem dX7_messageTold_44 : decode cX7_messageTold 44 = .ok (.aload_n 0, 1) := by decide +kernel
theorem dX7_messageTold_45 : decode cX7_messageTold 45 = .ok (.iload_n 3, 1) := by decide +kernel
theorem dX7_messageTold_46 : decode cX7_messageTold 46 = .ok (.invokevirtual 58, 3) := by decide +kernel
theorem dX7_messageTold_49 : decode cX7_messageTold 49 = .ok (.ireturn, 1) := by decide +kernel
theorem dX7_messageTold_50 : decode cX7_messageTold 50 = .ok (.aload_n 0, 1) := by decide +kernel
theorem dX7_messageTold_51 : decode cX7_messageTold 51 = .ok (.iload_n 3, 1) := by decide +kernel
theorem dX7_messageTold_52 : decode cX7_messageTold 52 = .ok (.invokevirtual 61, 3) := by decide +kernel
theorem dX7_messageTold_55 : decode cX7_messageTold 55 = .ok (.ireturn, 1) := by decide +kernel
theorem dX7_messageTold_56 : decode cX7_messageTold 56 = .ok (.aload_n 0, 1) := by decide +kernel
theorem dX7_messageTold_57 : decode cX7_messageTold 57 = .ok (.iload_n 1, 1) := by decide +kernel
theorem dX7_messageTold_58 : decode cX7_messageTold 58 = .ok (.iconst 1, 1) := by decide +kernel
theorem dX7_messageTold_59 : decode cX7_messageTold 59 = .ok (.invokevirtual 78, 3) := by decide +kernel
theorem dX7_messageTold_62 : decode cX7_messageTold 62 = .ok (.ireturn, 1) := by decide +kernel
theorem dX7_messageTold_63 : decode cX7_messageTold 63 = .ok (.aload_n 0, 1) := by decide +kernel
theorem dX7_messageTold_64 : decode cX7_messageTold 64 = .ok (.iload_n 1, 1) := by decide +kernel
theorem dX7_messageTold_65 : decode cX7_messageTold 65 = .ok (.invokevirtual 123, 3) := by decide +kernel
theorem dX7_messageTold_68 : decode cX7_messageTold 68 = .ok (.ireturn, 1) := by decide +kernel
theorem dX7_messageTold_69 : decode cX7_messageTold 69 = .ok (.aload_n 0, 1) := by decide +kernel
theorem dX7_messageTold_70 : decode cX7_messageTold 70 = .ok (.getfield 28, 3) := by decide +kernel
theorem dX7_messageTold_73 : decode cX7_messageTold 73 = .ok (.iconst 2, 1) := by decide +kernel
theorem dX7_messageTold_74 : decode cX7_messageTold 74 = .ok (.iload_n 1, 1) := by decide +kernel
theorem dX7_messageTold_75 : decode cX7_messageTold 75 = .ok (.imul, 1) := by decide +kernel
theorem dX7_messageTold_76 : decode cX7_messageTold 76 = .ok (.iaload, 1) := by decide +kernel
theorem dX7_messageTold_77 : decode cX7_messageTold 77 = .ok (.aload_n 0, 1) := by decide +kernel
theorem dX7_messageTold_78 : decode cX7_messageTold 78 = .ok (.getfield 28, 3) := by decide +kernel
theorem dX7_messageTold_81 : decode cX7_messageTold 81 = .ok (.iconst 2, 1) := by decide +kernel
theorem dX7_messageTold_82 : decode cX7_messageTold 82 = .ok (.iload_n 1, 1) := by decide +kernel
theorem dX7_messageTold_83 : decode cX7_messageTold 83 = .ok (.imul, 1) := by decide +kernel
theorem dX7_messageTold_84 : decode cX7_messageTold 84 = .ok (.iconst 1, 1) := by decide +kernel
theorem dX7_messageTold_85 : decode cX7_messageTold 85 = .ok (.iadd, 1) := by decide +kernel
theorem dX7_messageTold_86 : decode cX7_messageTold 86 = .ok (.iaload, 1) := by decide +kernel
theorem dX7_messageTold_87 : decode cX7_messageTold 87 = .ok (.iadd, 1) := by decide +kernel
theorem dX7_messageTold_88 : decode cX7_messageTold 88 = .ok (.ireturn, 1) := by decide +kernel
theorem dX7_messageTold_89 : decode cX7_messageTold 89 = .ok (.iconst 0, 1) := by decide +kernel
theorem dX7_messageTold_90 : decode cX7_messageTold 90 = .ok (.istore 4, 2) := by decide +kernel
theorem dX7_messageTold_92 : decode cX7_messageTold 92 = .ok (.iconst 0, 1) := by decide +kernel
theorem dX7_messageTold_93 : decode cX7_messageTold 93 = .ok (.istore 5, 2) := by decide +kernel
theorem dX7_messageTold_95 : decode cX7_messageTold 95 = .ok (.iload 5, 2) := by decide +kernel
theorem dX7_messageTold_97 : decode cX7_messageTold 97 = .ok (.bipush 36, 2) := by decide +kernel
theorem dX7_messageTold_99 : decode cX7_messageTold 99 = .ok (.if_icmp .ge 35, 3) := by decide +kernel
theorem dX7_messageTold_102 : decode cX7_messageTold 102 = .ok (.iload 4, 2) := by decide +kernel
theorem dX7_messageTold_104 : decode cX7_messageTold 104 = .ok (.aload_n 0, 1) := by decide +kernel
theorem dX7_messageTold_105 : decode cX7_messageTold 105 = .ok (.iload_n 1, 1) := by decide +kernel
theorem dX7_messageTold_106 : decode cX7_messageTold 106 = .ok (.iload 5, 2) := by decide +kernel
theorem dX7_messageTold_108 : decode cX7_messageTold 108 = .ok (.invokevirtual 81, 3) := by decide +kernel
theorem dX7_messageTold_111 : decode cX7_messageTold 111 = .ok (.ifCond .eq 13, 3) := by decide +kernel
theorem dX7_messageTold_114 : decode cX7_messageTold 114 = .ok (.aload_n 0, 1) := by decide +kernel
theorem dX7_messageTold_115 : decode cX7_messageTold 115 = .ok (.iload_n 3, 1) := by decide +kernel
theorem dX7_messageTold_116 : decode cX7_messageTold 116 = .ok (.iload 5, 2) := by decide +kernel
theorem dX7_messageTold_118 : decode cX7_messageTold 118 = .ok (.invokevirtual 170, 3) := by decide +kernel
theorem dX7_messageTold_121 : decode cX7_messageTold 121 = .ok (.goto 4, 3) := by decide +kernel
theorem dX7_messageTold_124 : decode cX7_messageTold 124 = .ok (.iconst 0, 1) := by decide +kernel
theorem dX7_messageTold_125 : decode cX7_messageTold 125 = .ok (.iadd, 1) := by decide +kernel
theorem dX7_messageTold_126 : decode cX7_messageTold 126 = .ok (.istore 4, 2) := by decide +kernel
theorem dX7_messageTold_128 : decode cX7_messageTold 128 = .ok (.iinc 5 1, 3) := by decide +kernel
theorem dX7_messageTold_131 : decode cX7_messageTold 131 = .ok (.goto (-36), 3) := by decide +kernel
theorem dX7_messageTold_134 : decode cX7_messageTold 134 = .ok (.iload 4, 2) := by decide +kernel
theorem dX7_messageTold_136 : decode cX7_messageTold 136 = .ok (.ireturn, 1) := by decide +kernel
theorem dX7_of_0 : decode cX7_of 0 = .ok (.aload_n 0, 1) := by decide +kernel
theorem dX7_of_1 : decode cX7_of 1 = .ok (.iload_n 1, 1) := by decide +kernel
theorem dX7_of_2 : decode cX7_of 2 = .ok (.invokevirtual 120, 3) := by decide +kernel
theorem dX7_of_5 : decode cX7_of 5 = .ok (.ifCond .eq 12, 3) := by decide +kernel
theorem dX7_of_8 : decode cX7_of 8 = .ok (.iload_n 2, 1) := by decide +kernel
theorem dX7_of_9 : decode cX7_of 9 = .ok (.iconst 0, 1) := by decide +kernel
theorem dX7_of_10 : decode cX7_of 10 = .ok (.iconst 5, 1) := by decide +kernel
theorem dX7_of_11 : decode cX7_of 11 = .ok (.invokestatic 54, 3) := by decide +kernel
theorem dX7_of_14 : decode cX7_of 14 = .ok (.ifCond .ne 10, 3) := by decide +kernel
theorem dX7_of_17 : decode cX7_of 17 = .ok (.aload_n 0, 1) := by decide +kernel
theorem dX7_of_18 : decode cX7_of 18 = .ok (.bipush (-2), 2) := by decide +kernel
theorem dX7_of_20 : decode cX7_of 20 = .ok (.invokevirtual 47, 3) := by decide +kernel
theorem dX7_of_23 : decode cX7_of 23 = .ok (.ireturn, 1) := by decide +kernel
theorem dX7_of_24 : decode cX7_of 24 = .ok (.aload_n 0, 1) := by decide +kernel
theorem dX7_of_25 : decode cX7_of 25 = .ok (.invokevirtual 129, 3) := by decide +kernel
theorem dX7_of_28 : decode cX7_of 28 = .ok (.aload_n 0, 1) := by decide +kernel
theorem dX7_of_29 : decode cX7_of 29 = .ok (.iload_n 1, 1) := by decide +kernel
theorem dX7_of_30 : decode cX7_of 30 = .ok (.iload_n 2, 1) := by decide +kernel
theorem dX7_of_31 : decode cX7_of 31 = .ok (.invokevirtual 188, 3) := by decide +kernel
theorem dX7_of_34 : decode cX7_of 34 = .ok (.ireturn, 1) := by decide +kernel
theorem dX7_areDone_0 : decode cX7_areDone 0 = .ok (.iconst 1, 1) := by decide +kernel
theorem dX7_areDone_1 : decode cX7_areDone 1 = .ok (.istore_n 2, 1) := by decide +kernel
theorem dX7_areDone_2 : decode cX7_areDone 2 = .ok (.iconst 0, 1) := by decide +kernel
theorem dX7_areDone_3 : decode cX7_areDone 3 = .ok (.istore_n 3, 1) := by decide +kernel
theorem dX7_areDone_4 : decode cX7_areDone 4 = .ok (.iload_n 3, 1) := by decide +kernel
theorem dX7_areDone_5 : decode cX7_areDone 5 = .ok (.iconst 2, 1) := by decide +kernel
theorem dX7_areDone_6 : decode cX7_areDone 6 = .ok (.aload_n 0, 1) := by decide +kernel
theorem dX7_areDone_7 : decode cX7_areDone 7 = .ok (.getfield 7, 3) := by decide +kernel
theorem dX7_areDone_10 : decode cX7_areDone 10 = .ok (.iconst 3, 1) := by decide +kernel
theorem dX7_areDone_11 : decode cX7_areDone 11 = .ok (.iaload, 1) := by decide +kernel
theorem dX7_areDone_12 : decode cX7_areDone 12 = .ok (.imul, 1) := by decide +kernel
theorem dX7_areDone_13 : decode cX7_areDone 13 = .ok (.if_icmp .ge 39, 3) := by decide +kernel
theorem dX7_areDone_16 : decode cX7_areDone 16 = .ok (.iload_n 2, 1) := by decide +kernel
theorem dX7_areDone_17 : decode cX7_areDone 17 = .ok (.ifCond .eq 27, 3) := by decide +kernel
theorem dX7_areDone_20 : decode cX7_areDone 20 = .ok (.iload_n 1, 1) := by decide +kernel
theorem dX7_areDone_21 : decode cX7_areDone 21 = .ok (.iconst (-1), 1) := by decide +kernel
theorem dX7_areDone_22 : decode cX7_areDone 22 = .ok (.if_icmp .eq 10, 3) := by decide +kernel
theorem dX7_areDone_25 : decode cX7_areDone 25 = .ok (.iload_n 3, 1) := by decide +kernel
theorem dX7_areDone_26 : decode cX7_areDone 26 = .ok (.iconst 2, 1) := by decide +kernel
theorem dX7_areDone_27 : decode cX7_areDone 27 = .ok (.idiv, 1) := by decide +kernel
theorem dX7_areDone_28 : decode cX7_areDone 28 = .ok (.iload_n 1, 1) := by decide +kernel
theorem dX7_areDone_29 : decode cX7_areDone 29 = .ok (.if_icmp .ne 11, 3) := by decide +kernel
theorem dX7_areDone_32 : decode cX7_areDone 32 = .ok (.aload_n 0, 1) := by decide +kernel
theorem dX7_areDone_33 : decode cX7_areDone 33 = .ok (.iload_n 3, 1) := by decide +kernel
theorem dX7_areDone_34 : decode cX7_areDone 34 = .ok (.invokevirtual 112, 3) := by decide +kernel
theorem dX7_areDone_37 : decode cX7_areDone 37 = .ok (.ifCond .eq 7, 3) := by decide +kernel
theorem dX7_areDone_40 : decode cX7_areDone 40 = .ok (.iconst 1, 1) := by decide +kernel
theorem dX7_areDone_41 : decode cX7_areDone 41 = .ok (.goto 4, 3) := by decide +kernel
theorem dX7_areDone_44 : decode cX7_areDone 44 = .ok (.iconst 0, 1) := by decide +kernel
theorem dX7_areDone_45 : decode cX7_areDone 45 = .ok (.istore_n 2, 1) := by decide +kernel
theorem dX7_areDone_46 : decode cX7_areDone 46 = .ok (.iinc 3 1, 3) := by decide +kernel
theorem dX7_areDone_49 : decode cX7_areDone 49 = .ok (.goto (-45), 3) := by decide +kernel
theorem dX7_areDone_52 : decode cX7_areDone 52 = .ok (.iload_n 2, 1) := by decide +kernel
theorem dX7_areDone_53 : decode cX7_areDone 53 = .ok (.ireturn, 1) := by decide +kernel
theorem dX7_whenDone_0 : decode cX7_whenDone 0 = .ok (.aload_n 0, 1) := by decide +kernel
theorem dX7_whenDone_1 : decode cX7_whenDone 1 = .ok (.invokevirtual 129, 3) := by decide +kernel
theorem dX7_whenDone_4 : decode cX7_whenDone 4 = .ok (.aload_n 0, 1) := by decide +kernel
theorem dX7_whenDone_5 : decode cX7_whenDone 5 = .ok (.invokevirtual 139, 3) := by decide +kernel
theorem dX7_whenDone_8 : decode cX7_whenDone 8 = .ok (.iconst 0, 1) := by decide +kernel
theorem dX7_whenDone_9 : decode cX7_whenDone 9 = .ok (.istore_n 2, 1) := by decide +kernel
theorem dX7_whenDone_10 : decode cX7_whenDone 10 = .ok (.iload_n 2, 1) := by decide +kernel
theorem dX7_whenDone_11 : decode cX7_whenDone 11 = .ok (.sipush 400, 3) := by decide +kernel
theorem dX7_whenDone_14 : decode cX7_whenDone 14 = .ok (.if_icmp .gt 21, 3) := by decide +kernel
theorem dX7_whenDone_17 : decode cX7_whenDone 17 = .ok (.aload_n 0, 1) := by decide +kernel
theorem dX7_whenDone_18 : decode cX7_whenDone 18 = .ok (.iload_n 1, 1) := by decide +kernel
theorem dX7_whenDone_19 : decode cX7_whenDone 19 = .ok (.invokevirtual 191, 3) := by decide +kernel
theorem dX7_whenDone_22 : decode cX7_whenDone 22 = .ok (.ifCond .ne 13, 3) := by decide +kernel
theorem dX7_whenDone_25 : decode cX7_whenDone 25 = .ok (.aload_n 0, 1) := by decide +kernel
theorem dX7_whenDone_26 : decode cX7_whenDone 26 = .ok (.invokevirtual 132, 3) := by decide +kernel
theorem dX7_whenDone_29 : decode cX7_whenDone 29 = .ok (.iinc 2 1, 3) := by decide +kernel
theorem dX7_whenDone_32 : decode cX7_whenDone 32 = .ok (.goto (-22), 3) := by decide +kernel
theorem dX7_whenDone_35 : decode cX7_whenDone 35 = .ok (.aload_n 0, 1) := by decide +kernel
theorem dX7_whenDone_36 : decode cX7_whenDone 36 = .ok (.invokevirtual 194, 3) := by decide +kernel
theorem dX7_whenDone_39 : decode cX7_whenDone 39 = .ok (.iload_n 2, 1) := by decide +kernel
theorem dX7_whenDone_40 : decode cX7_whenDone 40 = .ok (.sipush 400, 3) := by decide +kernel
theorem dX7_whenDone_43 : decode cX7_whenDone 43 = .ok (.if_icmp .le 7, 3) := by decide +kernel
theorem dX7_whenDone_46 : decode cX7_whenDone 46 = .ok (.iconst (-1), 1) := by decide +kernel
theorem dX7_whenDone_47 : decode cX7_whenDone 47 = .ok (.goto 4, 3) := by decide +kernel
theorem dX7_whenDone_50 : decode cX7_whenDone 50 = .ok (.iload_n 2, 1) := by decide +kernel
theorem dX7_whenDone_51 : decode cX7_whenDone 51 = .ok (.ireturn, 1) := by decide +kernel
theorem dX7_when_0 : decode cX7_when 0 = .ok (.iload_n 1, 1) := by decide +kernel
theorem dX7_when_1 : decode cX7_when 1 = .ok (.iconst (-1), 1) := by decide +kernel
theorem dX7_when_2 : decode cX7_when 2 = .ok (.if_icmp .eq 11, 3) := by decide +kernel
theorem dX7_when_5 : decode cX7_when 5 = .ok (.aload_n 0, 1) := by decide +kernel
theorem dX7_when_6 : decode cX7_when 6 = .ok (.iload_n 1, 1) := by decide +kernel
theorem dX7_when_7 : decode cX7_when 7 = .ok (.invokevirtual 120, 3) := by decide +kernel
theorem dX7_when_10 : decode cX7_when 10 = .ok (.ifCond .eq 11, 3) := by decide +kernel
theorem dX7_when_13 : decode cX7_when 13 = .ok (.aload_n 0, 1) := by decide +kernel
theorem dX7_when_14 : decode cX7_when 14 = .ok (.iload_n 1, 1) := by decide +kernel
theorem dX7_when_15 : decode cX7_when 15 = .ok (.invokevirtual 197, 3) := by decide +kernel
theorem dX7_when_18 : decode cX7_when 18 = .ok (.goto 9, 3) := by decide +kernel
theorem dX7_when_21 : decode cX7_when 21 = .ok (.aload_n 0, 1) := by decide +kernel
theorem dX7_when_22 : decode cX7_when 22 = .ok (.bipush (-2), 2) := by decide +kernel
theorem dX7_when_24 : decode cX7_when 24 = .ok (.invokevirtual 47, 3) := by decide +kernel
theorem dX7_when_27 : decode cX7_when 27 = .ok (.ireturn, 1) := by decide +kernel
theorem dX7_countTold_0 : decode cX7_countTold 0 = .ok (.iconst 0, 1) := by decide +kernel
theorem dX7_countTold_1 : decode cX7_countTold 1 = .ok (.istore_n 2, 1) := by decide +kernel
theorem dX7_countTold_2 : decode cX7_countTold 2 = .ok (.iconst 0, 1) := by decide +kernel
theorem dX7_countTold_3 : decode cX7_countTold 3 = .ok (.istore_n 3, 1) := by decide +kernel
theorem dX7_countTold_4 : decode cX7_countTold 4 = .ok (.iconst 0, 1) := by decide +kernel
theorem dX7_countTold_5 : decode cX7_countTold 5 = .ok (.istore 4, 2) := by decide +kernel
theorem dX7_countTold_7 : decode cX7_countTold 7 = .ok (.iconst 0, 1) := by decide +kernel
theorem dX7_countTold_8 : decode cX7_countTold 8 = .ok (.istore 5, 2) := by decide +kernel
theorem dX7_countTold_10 : decode cX7_countTold 10 = .ok (.iconst 0, 1) := by decide +kernel
theorem dX7_countTold_11 : decode cX7_countTold 11 = .ok (.istore 6, 2) := by decide +kernel
theorem dX7_countTold_13 : decode cX7_countTold 13 = .ok (.iload 6, 2) := by decide +kernel
theorem dX7_countTold_15 : decode cX7_countTold 15 = .ok (.aload_n 0, 1) := by decide +kernel
theorem dX7_countTold_16 : decode cX7_countTold 16 = .ok (.getfield 7, 3) := by decide +kernel
theorem dX7_countTold_19 : decode cX7_countTold 19 = .ok (.iconst 0, 1) := by decide +kernel
theorem dX7_countTold_20 : decode cX7_countTold 20 = .ok (.iaload, 1) := by decide +kernel
theorem dX7_countTold_21 : decode cX7_countTold 21 = .ok (.aload_n 0, 1) := by decide +kernel
theorem dX7_countTold_22 : decode cX7_countTold 22 = .ok (.getfield 7, 3) := by decide +kernel
theorem dX7_countTold_25 : decode cX7_countTold 25 = .ok (.iconst 1, 1) := by decide +kernel
theorem dX7_countTold_26 : decode cX7_countTold 26 = .ok (.iaload, 1) := by decide +kernel
theorem dX7_countTold_27 : decode cX7_countTold 27 = .ok (.imul, 1) := by decide +kernel
theorem dX7_countTold_28 : decode cX7_countTold 28 = .ok (.if_icmp .ge 43, 3) := by decide +kernel
theorem dX7_countTold_31 : decode cX7_countTold 31 = .ok (.iconst 0, 1) := by decide +kernel
theorem dX7_countTold_32 : decode cX7_countTold 32 = .ok (.istore 7, 2) := by decide +kernel
theorem dX7_countTold_34 : decode cX7_countTold 34 = .ok (.iload 7, 2) := by decide +kernel
theorem dX7_countTold_36 : decode cX7_countTold 36 = .ok (.iconst 4, 1) := by decide +kernel
theorem dX7_countTold_37 : decode cX7_countTold 37 = .ok (.if_icmp .ge 28, 3) := by decide +kernel
theorem dX7_countTold_40 : decode cX7_countTold 40 = .ok (.iload_n 2, 1) := by decide +kernel
theorem dX7_countTold_41 : decode cX7_countTold 41 = .ok (.aload_n 0, 1) := by decide +kernel
theorem dX7_countTold_42 : decode cX7_countTold 42 = .ok (.iload 6, 2) := by decide +kernel
theorem dX7_countTold_44 : decode cX7_countTold 44 = .ok (.iload 7, 2) := by decide +kernel
theorem dX7_countTold_46 : decode cX7_countTold 46 = .ok (.invokevirtual 103, 3) := by decide +kernel
theorem dX7_countTold_49 : decode cX7_countTold 49 = .ok (.ifCond .eq 7, 3) := by decide +kernel
theorem dX7_countTold_52 : decode cX7_countTold 52 = .ok (.iconst 1, 1) := by decide +kernel
theorem dX7_countTold_53 : decode cX7_countTold 53 = .ok (.goto 4, 3) := by decide +kernel
theorem dX7_countTold_56 : decode cX7_countTold 56 = .ok (.iconst 0, 1) := by decide +kernel
theorem dX7_countTold_57 : decode cX7_countTold 57 = .ok (.iadd, 1) := by decide +kernel
theorem dX7_countTold_58 : decode cX7_countTold 58 = .ok (.istore_n 2, 1) := by decide +kernel
theorem dX7_countTold_59 : decode cX7_countTold 59 = .ok (.iinc 7 1, 3) := by decide +kernel
theorem dX7_countTold_62 : decode cX7_countTold 62 = .ok (.goto (-28), 3) := by decide +kernel
theorem dX7_countTold_65 : decode cX7_countTold 65 = .ok (.iinc 6 1, 3) := by decide +kernel
theorem dX7_countTold_68 : decode cX7_countTold 68 = .ok (.goto (-55), 3) := by decide +kernel
theorem dX7_countTold_71 : decode cX7_countTold 71 = .ok (.iconst 0, 1) := by decide +kernel
theorem dX7_countTold_72 : decode cX7_countTold 72 = .ok (.istore 6, 2) := by decide +kernel
theorem dX7_countTold_74 : decode cX7_countTold 74 = .ok (.iload 6, 2) := by decide +kernel
theorem dX7_countTold_76 : decode cX7_countTold 76 = .ok (.iconst 2, 1) := by decide +kernel
theorem dX7_countTold_77 : decode cX7_countTold 77 = .ok (.aload_n 0, 1) := by decide +kernel
theorem dX7_countTold_78 : decode cX7_countTold 78 = .ok (.getfield 7, 3) := by decide +kernel
theorem dX7_countTold_81 : decode cX7_countTold 81 = .ok (.iconst 3, 1) := by decide +kernel
theorem dX7_countTold_82 : decode cX7_countTold 82 = .ok (.iaload, 1) := by decide +kernel
theorem dX7_countTold_83 : decode cX7_countTold 83 = .ok (.imul, 1) := by decide +kernel
theorem dX7_countTold_84 : decode cX7_countTold 84 = .ok (.if_icmp .ge 38, 3) := by decide +kernel
theorem dX7_countTold_87 : decode cX7_countTold 87 = .ok (.iload_n 3, 1) := by decide +kernel
theorem dX7_countTold_88 : decode cX7_countTold 88 = .ok (.aload_n 0, 1) := by decide +kernel
theorem dX7_countTold_89 : decode cX7_countTold 89 = .ok (.iload 6, 2) := by decide +kernel
theorem dX7_countTold_91 : decode cX7_countTold 91 = .ok (.invokevirtual 176, 3) := by decide +kernel
theorem dX7_countTold_94 : decode cX7_countTold 94 = .ok (.iadd, 1) := by decide +kernel
theorem dX7_countTold_95 : decode cX7_countTold 95 = .ok (.istore_n 3, 1) := by decide +kernel
theorem dX7_countTold_96 : decode cX7_countTold 96 = .ok (.iload 4, 2) := by decide +kernel
theorem dX7_countTold_98 : decode cX7_countTold 98 = .ok (.aload_n 0, 1) := by decide +kernel
theorem dX7_countTold_99 : decode cX7_countTold 99 = .ok (.iload 6, 2) := by decide +kernel
theorem dX7_countTold_101 : decode cX7_countTold 101 = .ok (.iconst 2, 1) := by decide +kernel
theorem dX7_countTold_102 : decode cX7_countTold 102 = .ok (.idiv, 1) := by decide +kernel
theorem dX7_countTold_103 : decode cX7_countTold 103 = .ok (.bipush 6, 2) := by decide +kernel
theorem dX7_countTold_105 : decode cX7_countTold 105 = .ok (.iload 6, 2) := by decide +kernel
theorem dX7_countTold_107 : decode cX7_countTold 107 = .ok (.iconst 2, 1) := by decide +kernel
theorem dX7_countTold_108 : decode cX7_countTold 108 = .ok (.irem, 1) := by decide +kernel
theorem dX7_countTold_109 : decode cX7_countTold 109 = .ok (.iadd, 1) := by decide +kernel
theorem dX7_countTold_110 : decode cX7_countTold 110 = .ok (.invokevirtual 78, 3) := by decide +kernel
theorem dX7_countTold_113 : decode cX7_countTold 113 = .ok (.iadd, 1) := by decide +kernel
theorem dX7_countTold_114 : decode cX7_countTold 114 = .ok (.istore 4, 2) := by decide +kernel
theorem dX7_countTold_116 : decode cX7_countTold 116 = .ok (.iinc 6 1, 3) := by decide +kernel
theorem dX7_countTold_119 : decode cX7_countTold 119 = .ok (.goto (-45), 3) := by decide +kernel
theorem dX7_countTold_122 : decode cX7_countTold 122 = .ok (.iconst 0, 1) := by decide +kernel
theorem dX7_countTold_123 : decode cX7_countTold 123 = .ok (.istore 6, 2) := by decide +kernel
theorem dX7_countTold_125 : decode cX7_countTold 125 = .ok (.iload 6, 2) := by decide +kernel
theorem dX7_countTold_127 : decode cX7_countTold 127 = .ok (.aload_n 0, 1) := by decide +kernel
theorem dX7_countTold_128 : decode cX7_countTold 128 = .ok (.getfield 7, 3) := by decide +kernel
theorem dX7_countTold_131 : decode cX7_countTold 131 = .ok (.iconst 3, 1) := by decide +kernel
theorem dX7_countTold_132 : decode cX7_countTold 132 = .ok (.iaload, 1) := by decide +kernel
theorem dX7_countTold_133 : decode cX7_countTold 133 = .ok (.if_icmp .ge 28, 3) := by decide +kernel
theorem dX7_countTold_136 : decode cX7_countTold 136 = .ok (.iload 5, 2) := by decide +kernel
theorem dX7_countTold_138 : decode cX7_countTold 138 = .ok (.aload_n 0, 1) := by decide +kernel
theorem dX7_countTold_139 : decode cX7_countTold 139 = .ok (.iload 6, 2) := by decide +kernel
theorem dX7_countTold_141 : decode cX7_countTold 141 = .ok (.invokevirtual 191, 3) := by decide +kernel
theorem dX7_countTold_144 : decode cX7_countTold 144 = .ok (.ifCond .eq 7, 3) := by decide +kernel
theorem dX7_countTold_147 : decode cX7_countTold 147 = .ok (.iconst 1, 1) := by decide +kernel
theorem dX7_countTold_148 : decode cX7_countTold 148 = .ok (.goto 4, 3) := by decide +kernel
theorem dX7_countTold_151 : decode cX7_countTold 151 = .ok (.iconst 0, 1) := by decide +kernel
theorem dX7_countTold_152 : decode cX7_countTold 152 = .ok (.iadd, 1) := by decide +kernel
theorem dX7_countTold_153 : decode cX7_countTold 153 = .ok (.istore 5, 2) := by decide +kernel
theorem dX7_countTold_155 : decode cX7_countTold 155 = .ok (.iinc 6 1, 3) := by decide +kernel
theorem dX7_countTold_158 : decode cX7_countTold 158 = .ok (.goto (-33), 3) := by decide +kernel
theorem dX7_countTold_161 : decode cX7_countTold 161 = .ok (.iload_n 1, 1) := by decide +kernel
theorem dX7_countTold_162 : decode cX7_countTold 162 = .ok (.tableswitch 77 0 6 #[42, 49, 56, 63, 70, 72, 74], 42) := by decide +kernel
theorem dX7_countTold_204 : decode cX7_countTold 204 = .ok (.aload_n 0, 1) := by decide +kernel
theorem dX7_countTold_205 : decode cX7_countTold 205 = .ok (.getfield 7, 3) := by decide +kernel
theorem dX7_countTold_208 : decode cX7_countTold 208 = .ok (.iconst 0, 1) := by decide +kernel
theorem dX7_countTold_209 : decode cX7_countTold 209 = .ok (.iaload, 1) := by decide +kernel
theorem dX7_countTold_210 : decode cX7_countTold 210 = .ok (.ireturn, 1) := by decide +kernel
theorem dX7_countTold_211 : decode cX7_countTold 211 = .ok (.aload_n 0, 1) := by decide +kernel
theorem dX7_countTold_212 : decode cX7_countTold 212 = .ok (.getfield 7, 3) := by decide +kernel
theorem dX7_countTold_215 : decode cX7_countTold 215 = .ok (.iconst 1, 1) := by decide +kernel
theorem dX7_countTold_216 : decode cX7_countTold 216 = .ok (.iaload, 1) := by decide +kernel
theorem dX7_countTold_217 : decode cX7_countTold 217 = .ok (.ireturn, 1) := by decide +kernel
theorem dX7_countTold_218 : decode cX7_countTold 218 = .ok (.aload_n 0, 1) := by decide +kernel
theorem dX7_countTold_219 : decode cX7_countTold 219 = .ok (.getfield 7, 3) := by decide +kernel
theorem dX7_countTold_222 : decode cX7_countTold 222 = .ok (.iconst 3, 1) := by decide +kernel
theorem dX7_countTold_223 : decode cX7_countTold 223 = .ok (.iaload, 1) := by decide +kernel
theorem dX7_countTold_224 : decode cX7_countTold 224 = .ok (.ireturn, 1) := by decide +kernel
theorem dX7_countTold_225 : decode cX7_countTold 225 = .ok (.aload_n 0, 1) := by decide +kernel
theorem dX7_countTold_226 : decode cX7_countTold 226 = .ok (.getfield 7, 3) := by decide +kernel
theorem dX7_countTold_229 : decode cX7_countTold 229 = .ok (.iconst 2, 1) := by decide +kernel
theorem dX7_countTold_230 : decode cX7_countTold 230 = .ok (.iaload, 1) := by decide +kernel
theorem dX7_countTold_231 : decode cX7_countTold 231 = .ok (.ireturn, 1) := by decide +kernel
theorem dX7_countTold_232 : decode cX7_countTold 232 = .ok (.iload_n 2, 1) := by decide +kernel
theorem dX7_countTold_233 : decode cX7_countTold 233 = .ok (.ireturn, 1) := by decide +kernel
theorem dX7_countTold_234 : decode cX7_countTold 234 = .ok (.iload_n 3, 1) := by decide +kernel
theorem dX7_countTold_235 : decode cX7_countTold 235 = .ok (.ireturn, 1) := by decide +kernel
theorem dX7_countTold_236 : decode cX7_countTold 236 = .ok (.iload 4, 2) := by decide +kernel
theorem dX7_countTold_238 : decode cX7_countTold 238 = .ok (.ireturn, 1) := by decide +kernel
theorem dX7_countTold_239 : decode cX7_countTold 239 = .ok (.iload 5, 2) := by decide +kernel
theorem dX7_countTold_241 : decode cX7_countTold 241 = .ok (.ireturn, 1) := by decide +kernel
